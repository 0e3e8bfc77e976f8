/-! ===== the front: those that none beats, sorted, once ===== -/
def dm (q r : Nat → Nat) : Prop := ∀ a, a < 4 → q a ≤ r a
theorem dm_rf (q : Nat → Nat) : dm q q := fun _ _ => Nat.le_refl _
theorem dm_tr {q r s : Nat → Nat} (h1 : dm q r) (h2 : dm r s) : dm q s := fun a ha => Nat.le_trans (h1 a ha) (h2 a ha)
theorem dm_le {q r : Nat → Nat} (h : dm q r) : P4 q ≤ P4 r := by
  have h0 := h 0 (by omega)
  have h1 := h 1 (by omega)
  have h2 := h 2 (by omega)
  have h3 := h 3 (by omega)
  unfold P4
  omega
theorem dm_of_eq {q r : Nat → Nat} (hq : ∀ a, a < 4 → q a < 16384) (hr : ∀ a, a < 4 → r a < 16384) (e : P4 q = P4 r) : dm q r := fun a ha => Nat.le_of_eq (P4_inj (fun a h => Nat.lt_trans (hq a h) (by decide)) (fun a h => Nat.lt_trans (hr a h) (by decide)) e a ha)
/-- the front of the plans 0 .. np - 1, whose lanes are L: the plans fp 0 .. fp (nf - 1) -/
def FS (np : Nat) (L : Nat → Nat → Nat) (nf : Nat) (fp : Nat → Nat) : Prop :=
  (∀ k, k < nf → fp k < np) ∧ (∀ k, k < nf → ∀ q, q < fp k → P4 (L q) ≠ P4 (L (fp k))) ∧ (∀ k, k < nf → ∀ q, q < np → dm (L q) (L (fp k)) → P4 (L q) = P4 (L (fp k))) ∧ (∀ i j, i < j → j < nf → P4 (L (fp i)) < P4 (L (fp j))) ∧ ∀ p, p < np → ∃ k, k < nf ∧ dm (L (fp k)) (L p)
theorem sorted_unique {n m : Nat} {u v : Nat → Nat} (hu : ∀ i j, i < j → j < n → u i < u j) (hv : ∀ i j, i < j → j < m → v i < v j) (huv : ∀ i, i < n → ∃ j, j < m ∧ v j = u i) (hvu : ∀ j, j < m → ∃ i, i < n ∧ u i = v j) : n = m ∧ ∀ i, i < n → u i = v i := by
  have key : ∀ i, i < n → i < m ∧ u i = v i := by
    intro i
    induction i using Nat.strongRecOn with
    | ind i ih =>
      intro hi
      obtain ⟨j, hj, ej⟩ := huv i hi
      have hij : i ≤ j := by
        rcases Nat.lt_or_ge j i with q | q
        · have e1 := (ih j q (by omega)).2
          have e2 := hu j i q hi
          omega
        · exact q
      have him : i < m := by omega
      refine ⟨him, ?_⟩
      obtain ⟨i2, hi2, e2⟩ := hvu i him
      have h3 : i ≤ i2 := by
        rcases Nat.lt_or_ge i2 i with q | q
        · have e3 := (ih i2 q hi2).2
          have e4 := hv i2 i q him
          omega
        · exact q
      have h4 : u i ≤ u i2 := by
        rcases Nat.lt_or_ge i i2 with q | q
        · exact Nat.le_of_lt (hu i i2 q hi2)
        · have : i = i2 := by omega
          subst this
          exact Nat.le_refl _
      have h5 : v i ≤ v j := by
        rcases Nat.lt_or_ge i j with q | q
        · exact Nat.le_of_lt (hv i j q hj)
        · have : i = j := by omega
          subst this
          exact Nat.le_refl _
      omega
  refine ⟨?_, fun i hi => (key i hi).2⟩
  rcases Nat.lt_trichotomy n m with q | q | q
  · obtain ⟨i, hi, ei⟩ := hvu n q
    have e1 := key i hi
    have e2 := hv i n hi q
    omega
  · exact q
  · have := (key m q).1
    omega
theorem FS_unique {np nf nf' : Nat} {L : Nat → Nat → Nat} {fp fp' : Nat → Nat} (h : FS np L nf fp) (h' : FS np L nf' fp') : nf = nf' ∧ ∀ k, k < nf → fp k = fp' k := by
  obtain ⟨a1, a2, a3, a4, a5⟩ := h
  obtain ⟨b1, b2, b3, b4, b5⟩ := h'
  have k := sorted_unique (u := fun i => P4 (L (fp i))) (v := fun i => P4 (L (fp' i))) a4 b4 (fun i hi => by
    obtain ⟨j, hj, hd⟩ := b5 (fp i) (a1 i hi)
    exact ⟨j, hj, a3 i hi (fp' j) (b1 j hj) hd⟩) (fun j hj => by
    obtain ⟨i, hi, hd⟩ := a5 (fp' j) (b1 j hj)
    exact ⟨i, hi, b3 j hj (fp i) (a1 i hi) hd⟩)
  refine ⟨k.1, fun i hi => ?_⟩
  have e := k.2 i hi
  have hi' : i < nf' := by rw [← k.1]; exact hi
  rcases Nat.lt_trichotomy (fp i) (fp' i) with q | q | q
  · exact absurd e (b2 i hi' (fp i) q)
  · exact q
  · exact absurd e.symm (a2 i hi (fp' i) q)
/-- a further plan that one of the front's is in no lane greater than -/
theorem FS_same {np nf : Nat} {L : Nat → Nat → Nat} {fp : Nat → Nat} (h : FS np L nf fp) (hd : ∃ k, k < nf ∧ dm (L (fp k)) (L np)) : FS (np + 1) L nf fp := by
  obtain ⟨a1, a2, a3, a4, a5⟩ := h
  obtain ⟨k0, hk0, hd0⟩ := hd
  refine ⟨fun k hk => Nat.lt_succ_of_lt (a1 k hk), a2, fun k hk q hq hdq => ?_, a4, fun p hp => ?_⟩
  · rcases Nat.lt_or_ge q np with z | z
    · exact a3 k hk q z hdq
    · have : q = np := by omega
      subst this
      have e := a3 k hk (fp k0) (a1 k0 hk0) (dm_tr hd0 hdq)
      have l1 := dm_le hd0
      have l2 := dm_le hdq
      omega
  · rcases Nat.lt_or_ge p np with z | z
    · exact a5 p z
    · have : p = np := by omega
      subst this
      exact ⟨k0, hk0, hd0⟩
/-- the front behind a new plan that none beats: m old ones are kept, by their places e, the new one lies at k -/
def fpN (np k : Nat) (fp e : Nat → Nat) : Nat → Nat := fun i => if i < k then fp (e i) else if i = k then np else fp (e (i - 1))
theorem FS_new {np nf k m : Nat} {L : Nat → Nat → Nat} {fp e : Nat → Nat} (hL : ∀ p, p ≤ np → ∀ a, a < 4 → L p a < 16384) (h : FS np L nf fp) (hd : ¬ ∃ k, k < nf ∧ dm (L (fp k)) (L np)) (hk : k ≤ m) (hk1 : ∀ i, i < k → P4 (L (fp i)) < P4 (L np)) (hk2 : ∀ i, k ≤ i → i < nf → P4 (L np) ≤ P4 (L (fp i)))
    (e1 : ∀ i, i < k → e i = i) (e2 : ∀ i j, i < j → j < m → e i < e j) (e3 : ∀ i, i < m → e i < nf) (e4 : ∀ i, k ≤ i → i < m → k ≤ e i ∧ ¬ dm (L np) (L (fp (e i)))) (e5 : ∀ j, k ≤ j → j < nf → ¬ dm (L np) (L (fp j)) → ∃ i, i < m ∧ e i = j) : FS (np + 1) L (m + 1) (fpN np k fp e) := by
  obtain ⟨a1, a2, a3, a4, a5⟩ := h
  have new : ∀ q, q < np → ¬ dm (L q) (L np) := fun q hq hdq => by
    obtain ⟨i, hi, hdi⟩ := a5 q hq
    exact hd ⟨i, hi, dm_tr hdi hdq⟩
  have neq : ∀ q, q < np → P4 (L q) ≠ P4 (L np) := fun q hq eq => new q hq (dm_of_eq (hL q (by omega)) (hL np (by omega)) eq)
  have lo : ∀ i, i < k → fpN np k fp e i = fp (e i) := fun i hi => if_pos hi
  have mid : fpN np k fp e k = np := by
    unfold fpN
    rw [if_neg (Nat.lt_irrefl k), if_pos rfl]
  have up : ∀ i, k < i → fpN np k fp e i = fp (e (i - 1)) := fun i hi => by
    unfold fpN
    rw [if_neg (by omega), if_neg (by omega)]
  have old : ∀ i, i < m → (∀ q, q < np + 1 → dm (L q) (L (fp (e i))) → P4 (L q) = P4 (L (fp (e i)))) := fun i hi q hq hdq => by
    rcases Nat.lt_or_ge q np with z | z
    · exact a3 (e i) (e3 i hi) q z hdq
    · have : q = np := by omega
      subst this
      rcases Nat.lt_or_ge i k with y | y
      · have l1 := hk1 i y
        have l2 := dm_le hdq
        rw [e1 i y] at l2
        omega
      · exact absurd hdq (e4 i y hi).2
  refine ⟨fun i hi => ?_, fun i hi q hq => ?_, fun i hi q hq hdq => ?_, fun i j hij hj => ?_, fun p hp => ?_⟩
  · rcases Nat.lt_trichotomy i k with z | z | z
    · rw [lo i z]
      exact Nat.lt_succ_of_lt (a1 _ (e3 i (by omega)))
    · subst z
      rw [mid]
      omega
    · rw [up i z]
      exact Nat.lt_succ_of_lt (a1 _ (e3 (i - 1) (by omega)))
  · rcases Nat.lt_trichotomy i k with z | z | z
    · rw [lo i z] at hq ⊢
      exact a2 _ (e3 i (by omega)) q hq
    · subst z
      rw [mid] at hq ⊢
      exact neq q hq
    · rw [up i z] at hq ⊢
      exact a2 _ (e3 (i - 1) (by omega)) q hq
  · rcases Nat.lt_trichotomy i k with z | z | z
    · rw [lo i z] at hdq ⊢
      exact old i (by omega) q hq hdq
    · subst z
      rw [mid] at hdq ⊢
      rcases Nat.lt_or_ge q np with y | y
      · exact absurd hdq (new q y)
      · have : q = np := by omega
        rw [this]
    · rw [up i z] at hdq ⊢
      exact old (i - 1) (by omega) q hq hdq
  · have upk : ∀ j, k < j → j < m + 1 → P4 (L np) < P4 (L (fp (e (j - 1)))) := fun j hj hjm => by
      have h1 := e4 (j - 1) (by omega) (by omega)
      have h2 := e3 (j - 1) (by omega)
      have h3 := hk2 (e (j - 1)) h1.1 h2
      rcases Nat.lt_or_ge (P4 (L np)) (P4 (L (fp (e (j - 1))))) with y | y
      · exact y
      · exact absurd (by omega) (neq _ (a1 _ h2))
    rcases Nat.lt_trichotomy i k with z | z | z
    · rw [lo i z]
      rcases Nat.lt_trichotomy j k with y | y | y
      · rw [lo j y]
        exact a4 _ _ (e2 i j hij (by omega)) (e3 j (by omega))
      · subst y
        rw [mid, e1 i z]
        exact hk1 i z
      · rw [up j y, e1 i z]
        exact Nat.lt_trans (hk1 i z) (upk j y hj)
    · subst z
      rw [mid, up j hij]
      exact upk j hij hj
    · rw [up i z, up j (by omega)]
      exact a4 _ _ (e2 _ _ (by omega) (by omega)) (e3 _ (by omega))
  · rcases Nat.lt_or_ge p np with z | z
    · obtain ⟨j, hj, hdj⟩ := a5 p z
      by_cases y : j < k
      · exact ⟨j, by omega, by rw [lo j y, e1 j y]; exact hdj⟩
      · by_cases x : dm (L np) (L (fp j))
        · exact ⟨k, by omega, by rw [mid]; exact dm_tr x hdj⟩
        · obtain ⟨i, hi, ei⟩ := e5 j (by omega) hj x
          have hik : k ≤ i := by
            rcases Nat.lt_or_ge i k with v | v
            · rw [e1 i v] at ei
              omega
            · exact v
          exact ⟨i + 1, by omega, by rw [up (i + 1) (by omega), Nat.add_sub_cancel, ei]; exact hdj⟩
    · have : p = np := by omega
      subst this
      exact ⟨k, by omega, by rw [mid]; exact dm_rf _⟩
/-- how many of the first n plans have this packed score -/
def cnt (L : Nat → Nat → Nat) (key : Nat) : Nat → Nat
  | 0 => 0
  | n + 1 => cnt L key n + (if P4 (L n) = key then 1 else 0)
theorem cnt_le {L : Nat → Nat → Nat} {key : Nat} : ∀ (n : Nat), cnt L key n ≤ n
  | 0 => Nat.le_refl 0
  | n + 1 => by
    show cnt L key n + _ ≤ n + 1
    have := cnt_le (L := L) (key := key) n
    split <;> omega
theorem cnt_zero {L : Nat → Nat → Nat} {key : Nat} : ∀ (n : Nat), (∀ q, q < n → P4 (L q) ≠ key) → cnt L key n = 0
  | 0, _ => rfl
  | n + 1, h => by
    show cnt L key n + _ = 0
    rw [cnt_zero n (fun q hq => h q (by omega)), if_neg (h n (by omega))]

/-! ===== the cover ===== -/
theorem cP_congr {P Q : Nat → Prop} : ∀ (n : Nat), (∀ t, t < n → (P t ↔ Q t)) → cP P n = cP Q n
  | 0, _ => rfl
  | n + 1, h => by
    have ih := cP_congr n (fun t ht => h t (by omega))
    by_cases hp : P n
    · rw [cP_yes hp, cP_yes ((h n (by omega)).mp hp), ih]
    · rw [cP_no hp, cP_no (fun z => hp ((h n (by omega)).mpr z)), ih]
theorem cP_rm {P Q : Nat → Prop} {j : Nat} : ∀ (n : Nat), j < n → P j → (∀ t, t < n → (Q t ↔ P t ∧ t ≠ j)) → cP P n = cP Q n + 1
  | n + 1, hj, hp, h => by
    by_cases e : j = n
    · subst e
      rw [cP_yes hp, cP_no (fun z => ((h j (by omega)).mp z).2 rfl), cP_congr j (fun t ht => (show P t ↔ Q t from ⟨fun z => (h t (by omega)).mpr ⟨z, by omega⟩, fun z => ((h t (by omega)).mp z).1⟩))]
    · have ih := cP_rm n (by omega) hp (fun t ht => h t (by omega))
      by_cases hn : P n
      · rw [cP_yes hn, cP_yes ((h n (by omega)).mpr ⟨hn, fun z => e z.symm⟩), ih]
      · rw [cP_no hn, cP_no (fun z => hn ((h n (by omega)).mp z).1), ih]
theorem cP_pos {P : Nat → Prop} {n t : Nat} (ht : t < n) (h : P t) : 0 < cP P n := by
  have h1 := cP_mono (Pl := P) (show t + 1 ≤ n from ht)
  rw [cP_yes h] at h1
  omega
theorem cP_ex {P : Nat → Prop} {n : Nat} (h : 0 < cP P n) : ∃ t, t < n ∧ P t := by
  obtain ⟨a, b, -⟩ := pn_has n 0 h
  exact ⟨_, b, a⟩
theorem cP_split {P Q : Nat → Prop} : ∀ (n : Nat), cP P n = cP (fun t => P t ∧ Q t) n + cP (fun t => P t ∧ ¬ Q t) n
  | 0 => rfl
  | n + 1 => by
    have ih := cP_split (P := P) (Q := Q) n
    by_cases hp : P n
    · rw [cP_yes hp]
      by_cases hq : Q n
      · rw [cP_yes (Pl := fun t => P t ∧ Q t) ⟨hp, hq⟩, cP_no (Pl := fun t => P t ∧ ¬ Q t) (fun z => z.2 hq)]
        omega
      · rw [cP_no (Pl := fun t => P t ∧ Q t) (fun z => hq z.2), cP_yes (Pl := fun t => P t ∧ ¬ Q t) ⟨hp, hq⟩]
        omega
    · rw [cP_no hp, cP_no (Pl := fun t => P t ∧ Q t) (fun z => hp z.1), cP_no (Pl := fun t => P t ∧ ¬ Q t) (fun z => hp z.1)]
      exact ih
/-- score k is near to score t -/
def nrA (na : Nat) (v : Nat → Nat → Int32) (d k t : Nat) : Prop := ∀ a, a < na → (v k a).toInt - (v t a).toInt ≤ d
/-- to how many not yet covered ones k is near -/
noncomputable def mN (n : Nat) (nr : Nat → Nat → Prop) (cov : Nat → Prop) (k : Nat) : Nat := cP (fun t => ¬ cov t ∧ nr k t) n
noncomputable def bN (n : Nat) (nr : Nat → Nat → Prop) (cov : Nat → Prop) : Nat := bestF (fun k o => mN n nr cov o < mN n nr cov k) (n - 1)
noncomputable def cvI (n : Nat) (nr : Nat → Nat → Prop) : Nat → Nat → Prop
  | 0 => fun _ => False
  | i + 1 => fun t => cvI n nr i t ∨ nr (bN n nr (cvI n nr i)) t
noncomputable def opI (n : Nat) (nr : Nat → Nat → Prop) (i : Nat) : Nat := cP (fun t => ¬ cvI n nr i t) n
theorem bestF_max {m : Nat → Nat} : ∀ (n k : Nat), k ≤ n → m k ≤ m (bestF (fun k o => m o < m k) n)
  | 0, k, h => by
    have : k = 0 := by omega
    subst this
    exact Nat.le_refl _
  | n + 1, k, h => by
    by_cases c : m (bestF (fun k o => m o < m k) n) < m (n + 1)
    · rw [bestF_yes (less := fun k o => m o < m k) c]
      rcases Nat.lt_or_ge n k with q | q
      · have : k = n + 1 := by omega
        subst this
        exact Nat.le_refl _
      · have := bestF_max (m := m) n k q
        omega
    · rw [bestF_no (less := fun k o => m o < m k) c]
      rcases Nat.lt_or_ge n k with q | q
      · have : k = n + 1 := by omega
        subst this
        omega
      · exact bestF_max n k q
theorem op_step {n : Nat} {nr : Nat → Nat → Prop} {i : Nat} : opI n nr i = opI n nr (i + 1) + mN n nr (cvI n nr i) (bN n nr (cvI n nr i)) := by
  unfold opI mN
  rw [cP_split (P := fun t => ¬ cvI n nr i t) (Q := fun t => nr (bN n nr (cvI n nr i)) t) n, Nat.add_comm]
  congr 1
  refine cP_congr n (fun t _ => ?_)
  show ¬ cvI n nr i t ∧ ¬ nr (bN n nr (cvI n nr i)) t ↔ ¬ (cvI n nr i t ∨ nr (bN n nr (cvI n nr i)) t)
  constructor
  · rintro ⟨a, b⟩ (c | c)
    · exact a c
    · exact b c
  · exact fun z => ⟨fun a => z (Or.inl a), fun a => z (Or.inr a)⟩
theorem bN_lt {n : Nat} {nr : Nat → Nat → Prop} {cov : Nat → Prop} (hn : 0 < n) : bN n nr cov < n := by
  have := bestF_le (less := fun k o => mN n nr cov o < mN n nr cov k) (n - 1)
  unfold bN
  omega
theorem m_pos {n : Nat} {nr : Nat → Nat → Prop} (hrf : ∀ t, t < n → nr t t) {i : Nat} (h : 0 < opI n nr i) : 0 < mN n nr (cvI n nr i) (bN n nr (cvI n nr i)) := by
  obtain ⟨t, ht, hc⟩ := cP_ex h
  have h1 : 0 < mN n nr (cvI n nr i) t := cP_pos ht ⟨hc, hrf t ht⟩
  have h2 := bestF_max (m := mN n nr (cvI n nr i)) (n - 1) t (by omega)
  exact Nat.lt_of_lt_of_le h1 h2
theorem op_le {n : Nat} {nr : Nat → Nat → Prop} (hrf : ∀ t, t < n → nr t t) : ∀ (i : Nat), opI n nr i + i ≤ n ∨ opI n nr i = 0
  | 0 => Or.inl (cP_le n)
  | i + 1 => by
    have ih := op_le hrf i
    have hs := op_step (n := n) (nr := nr) (i := i)
    by_cases h : 0 < opI n nr i
    · have := m_pos hrf h
      omega
    · omega
section CV
variable {na nf : Nat} {v : Nat → Nat → Int32} {scores : Nat → Int64} {FP PS : Nat → Int32}
theorem P4_add {q : Nat → Nat} {d : Nat} : P4 q + d * 281479271743489 = P4 (fun a => q a + d) := by
  unfold P4
  show q 0 * 281474976710656 + q 1 * 4294967296 + q 2 * 65536 + q 3 + d * 281479271743489 = (q 0 + d) * 281474976710656 + (q 1 + d) * 4294967296 + (q 2 + d) * 65536 + (q 3 + d)
  omega
theorem x_isNear (hV : FV na nf v scores FP PS) {d k t : Nat} (hd : d ≤ 4000) (hk : k < nf) (ht : t < nf) {post : Int32 → Prop} (h : ∀ r, fl r (nrA na v d k t) → post r) : wp_X2_isNear scores (nI k) (nI t) ((nI d).toInt64 * (281479271743489 : Int64)) post := by
  obtain ⟨n1, n2, n3⟩ := hV
  obtain ⟨a1, a2, -⟩ := n3 k hk
  obtain ⟨b1, b2, -⟩ := n3 t ht
  unfold wp_X2_isNear
  rw [cl_nI (by omega), cl_nI (by omega), a2, b2]
  have e : lN (P4 (lnA na (v t))) + (nI d).toInt64 * (281479271743489 : Int64) = lN (P4 (fun a => lnA na (v t) a + d)) := by
    rw [nI_l (by omega), show (281479271743489 : Int64) = lN 281479271743489 from rfl, lN_mul, lN_add, P4_add]
  rw [e]
  have lt1 := lnA_lt a1
  have lt2 : ∀ a, a < 4 → (fun a => lnA na (v t) a + d) a < 16384 := fun a _ => by
    show lnA na (v t) a + d < 16384
    by_cases ha : a < na
    · rw [lnA_in ha]
      have := ln_bd (b1 a ha)
      omega
    · rw [lnA_out ha]
      omega
  have key : (∀ a, a < 4 → lnA na (v k) a ≤ (fun a => lnA na (v t) a + d) a) ↔ nrA na v d k t := by
    constructor
    · intro z a ha
      have z1 : lnA na (v k) a ≤ lnA na (v t) a + d := z a (by omega)
      rw [lnA_in ha, lnA_in ha] at z1
      have c1 := a1 a ha
      have c2 := b1 a ha
      unfold ln at z1
      omega
    · intro z a _
      show lnA na (v k) a ≤ lnA na (v t) a + d
      by_cases ha : a < na
      · rw [lnA_in ha, lnA_in ha]
        have c1 := a1 a ha
        have c2 := b1 a ha
        have c3 := z a ha
        unfold ln
        omega
      · rw [lnA_out ha]
        omega
  refine ⟨vp_in_nI (by omega) (by decide), vp_in_nI (by omega) (by decide), w_ing lt1 lt2 (fun z => ⟨bz_1, h 1 (fl_1 (key.mp z))⟩) (fun z => ⟨bz_0, h 0 (fl_0 (fun y => z (key.mpr y)))⟩)⟩
theorem y_near (hV : FV na nf v scores FP PS) {d k t : Nat} (hd : d ≤ 4000) (hk : k < nf) (ht : t < nf) {post : Int32 → Prop} (h : ∀ r, fl r (nrA na v d k t) → post r) : wp_X7_near (nI na) FP PS (nI k) (nI t) (nI d) post := by
  have hV' := hV
  obtain ⟨n1, n2, n3⟩ := hV'
  unfold wp_X7_near
  refine Lq2_inv (fun p i => ∃ j : Nat, j ≤ na ∧ i = nI j ∧ fl p (nrA j v d k t)) (fun _ i => na - i.toNatClampNeg) ?_ _ _ ⟨0, Nat.zero_le _, rfl, fl_1 (fun a h => absurd h (Nat.not_lt_zero _))⟩
  rintro p i ⟨j, hj, rfl, hp⟩ w hw
  unfold b_X7_near_6
  refine ⟨fun hle => ?_, fun hlt => ?_⟩
  · have : na ≤ j := (nI_leI (by omega) (by omega)).mp hle
    have : j = na := by omega
    subst this
    exact ⟨fl_bz hp, h p hp⟩
  · have hjn := nI_leN (by omega) (by omega) hlt
    have dec : na - (nI j + 1).toNatClampNeg < na - (nI j).toNatClampNeg := by
      rw [nI_1, cl_nI (by omega), cl_nI (by omega)]
      omega
    refine ⟨fun z => hw _ _ ⟨j + 1, by omega, nI_1 j, fl_0 (fun y => fl_no hp z (fun a ha => y a (by omega)))⟩ dec, fun z => x_at hV hk hjn (x_at hV ht hjn ?_)⟩
    have c1 := (n3 k hk).1 j hjn
    have c2 := (n3 t ht).1 j hjn
    have e : v k j - v t j = iZ ((v k j).toInt - (v t j).toInt) := by
      rw [← iZ_sub, iZ_of, iZ_of]
    rw [e, ← iZ_nat, iZ_lt (by omega) (by omega)]
    refine ⟨fun q => hw _ _ ⟨j + 1, by omega, nI_1 j, fl_0 (fun y => ?_)⟩ dec, fun q => hw _ _ ⟨j + 1, by omega, nI_1 j, fl_1 (all_succ.mpr ⟨(fl_yes hp z).1, by omega⟩)⟩ dec⟩
    have := y j (by omega)
    omega
/-- the reach of all grows or falls by 1 where they are near to t -/
theorem x_changeReach (hV : FV na nf v scores FP PS) {n d t : Nat} (hn : n = nf) (h100 : n ≤ 100) (hd : d ≤ 4000) (ht : t < nf) {reach : Nat → Int32} {x : Int32} {post : (Nat → Int32) → Prop} (h : ∀ r', (∀ k, k < n → (nrA na v d k t → r' k = reach k + x) ∧ (¬ nrA na v d k t → r' k = reach k)) → post r') : wp_X2_changeReach scores reach (nI n) (nI t) ((nI d).toInt64 * (281479271743489 : Int64)) x post := by
  subst hn
  unfold wp_X2_changeReach
  refine Lq2_inv (fun i r' => ∃ j : Nat, j ≤ n ∧ i = nI j ∧ (∀ k, k < j → (nrA na v d k t → r' k = reach k + x) ∧ (¬ nrA na v d k t → r' k = reach k)) ∧ ∀ k, j ≤ k → r' k = reach k) (fun i _ => n - i.toNatClampNeg) ?_ _ _ ⟨0, Nat.zero_le _, rfl, fun k h => absurd h (Nat.not_lt_zero _), fun _ _ => rfl⟩
  rintro i r' ⟨j, hj, rfl, e1, e2⟩ w hw
  unfold b_X2_changeReach_3
  refine ⟨fun hle => ?_, fun hlt => ?_⟩
  · have : n ≤ j := (nI_leI (by omega) (by omega)).mp hle
    exact h r' (fun k hk => e1 k (by omega))
  · have hjn := nI_leN (by omega) (by omega) hlt
    have hin : vp_in (nI j) 100 := vp_in_nI (by omega) (by decide)
    have dec : n - (nI j + 1).toNatClampNeg < n - (nI j).toNatClampNeg := by
      rw [nI_1, cl_nI (by omega), cl_nI (by omega)]
      omega
    refine x_isNear hV hd hjn ht (fun r hr => ⟨fun z => ?_, fun z => ⟨hin, hin, ?_⟩⟩)
    · refine hw _ _ ⟨j + 1, by omega, nI_1 j, all_succ.mpr ⟨e1, fun y => absurd y (fl_no hr z), fun _ => e2 j (Nat.le_refl _)⟩, fun k hk => e2 k (by omega)⟩ dec
    · rw [cl_nI (by omega)]
      refine hw _ _ ⟨j + 1, by omega, nI_1 j, fun k hk => ?_, fun k hk => ?_⟩ dec
      · by_cases y : k = j
        · subst y
          refine ⟨fun _ => ?_, fun q => absurd (fl_yes hr z).1 q⟩
          rw [upd_s, e2 k (Nat.le_refl _)]
        · rw [upd_n y]
          exact e1 k (by omega)
      · rw [upd_n (by omega)]
        exact e2 k (by omega)
theorem x_furthest {n : Nat} (h0 : 0 < n) (h100 : n ≤ 100) {m : Nat → Nat} {reach : Nat → Int32} (hr : ∀ k, k < n → reach k = nI (m k)) (hm : ∀ k, k < n → m k < 2147483648) {post : Int32 → Prop} (h : post (nI (bestF (fun k o => m o < m k) (n - 1)))) : wp_X2_furthest reach (nI n) post := by
  unfold wp_X2_furthest
  refine Lq2_inv (fun b i => ∃ j : Nat, j + 1 ≤ n ∧ i = nI (j + 1) ∧ b = nI (bestF (fun k o => m o < m k) j)) (fun _ i => n - i.toNatClampNeg) ?_ _ _ ⟨0, by omega, rfl, rfl⟩
  rintro b i ⟨j, hj, rfl, rfl⟩ w hw
  unfold b_X2_furthest_4
  refine ⟨fun hle => ?_, fun hlt => ?_⟩
  · have : n ≤ j + 1 := (nI_leI (by omega) (by omega)).mp hle
    have : n - 1 = j := by omega
    rw [this] at h
    exact h
  · have hjn := nI_leN (by omega) (by omega) hlt
    have bl := bestF_le (less := fun k o => m o < m k) j
    have dec : n - (nI (j + 1) + 1).toNatClampNeg < n - (nI (j + 1)).toNatClampNeg := by
      rw [nI_1, cl_nI (by omega), cl_nI (by omega)]
      omega
    rw [cl_nI (by omega), cl_nI (by omega), hr _ hjn, hr _ (by omega), nI_leI (hm _ hjn) (hm _ (by omega))]
    refine ⟨vp_in_nI (by omega) (by decide), vp_in_nI (by omega) (by decide), fun q => ?_, fun q => ?_⟩
    · exact hw _ _ ⟨j + 1, by omega, nI_1 _, by rw [bestF_no (less := fun k o => m o < m k) (by show ¬ _ < _; omega)]⟩ dec
    · exact hw _ _ ⟨j + 1, by omega, nI_1 _, by rw [bestF_yes (less := fun k o => m o < m k) (by show _ < _; omega)]⟩ dec
theorem nar0 : vp_nar .boolean (0 : Int32) = 0 := by decide
theorem nar1 : vp_nar .boolean (1 : Int32) = 1 := by decide
theorem mN_le {n : Nat} {nr : Nat → Nat → Prop} {cov : Nat → Prop} {k : Nat} : mN n nr cov k ≤ n := cP_le n
theorem x_coverFrom (hV : FV na nf v scores FP PS) {n d b : Nat} (hn : n = nf) (h100 : n ≤ 100) (hd : d ≤ 4000) (hb : b < nf) {cov : Nat → Prop} {covered reach : Nat → Int32} (hc : ∀ t, t < n → fl (covered t) (cov t)) (hr : ∀ k, k < n → reach k = nI (mN n (nrA na v d) cov k)) {post : Int32 → (Nat → Int32) → (Nat → Int32) → Prop}
    (h : ∀ c' r', (∀ t, t < n → fl (c' t) (cov t ∨ nrA na v d b t)) → (∀ k, k < n → r' k = nI (mN n (nrA na v d) (fun t => cov t ∨ nrA na v d b t) k)) → post (nI (mN n (nrA na v d) cov b)) c' r') : wp_X2_coverFrom scores covered reach (nI n) (nI b) ((nI d).toInt64 * (281479271743489 : Int64)) post := by
  have hn' := hn
  subst hn
  unfold wp_X2_coverFrom
  refine Lq4_inv (fun m i c' r' => ∃ j : Nat, j ≤ n ∧ i = nI j ∧ m = nI (cP (fun t => ¬ cov t ∧ nrA na v d b t) j) ∧ (∀ t, t < n → fl (c' t) (cov t ∨ (t < j ∧ nrA na v d b t))) ∧ ∀ k, k < n → r' k = nI (mN n (nrA na v d) (fun t => cov t ∨ (t < j ∧ nrA na v d b t)) k)) (fun _ i _ _ => n - i.toNatClampNeg) ?_ _ _ _ _
    ⟨0, Nat.zero_le _, rfl, rfl, fun t ht => fl_iff (hc t ht) ⟨fun z => Or.inl z, fun z => z.elim id (fun y => absurd y.1 (Nat.not_lt_zero _))⟩, fun k hk => ?_⟩
  · rintro m i c' r' ⟨j, hj, rfl, rfl, e1, e2⟩ w hw
    unfold b_X2_coverFrom_6
    refine ⟨fun hle => ?_, fun hlt => ?_⟩
    · have : n ≤ j := (nI_leI (by omega) (by omega)).mp hle
      have : j = n := by omega
      subst this
      refine h c' r' (fun t ht => fl_iff (e1 t ht) ⟨fun z => z.elim Or.inl (fun y => Or.inr y.2), fun z => z.elim Or.inl (fun y => Or.inr ⟨ht, y⟩)⟩) (fun k hk => ?_)
      rw [e2 k hk]
      congr 1
      refine cP_congr j (fun t ht => ?_)
      constructor
      · rintro ⟨a, c⟩
        exact ⟨fun z => a (z.elim Or.inl (fun y => Or.inr ⟨ht, y⟩)), c⟩
      · rintro ⟨a, c⟩
        exact ⟨fun z => a (z.elim Or.inl (fun y => Or.inr y.2)), c⟩
    · have hjn := nI_leN (by omega) (by omega) hlt
      have hin : vp_in (nI j) 100 := vp_in_nI (by omega) (by decide)
      have dec : n - (nI j + 1).toNatClampNeg < n - (nI j).toNatClampNeg := by
        rw [nI_1, cl_nI (by omega), cl_nI (by omega)]
        omega
      have cj : fl (c' j) (cov j) := fl_iff (e1 j hjn) ⟨fun z => z.elim id (fun y => absurd y.1 (by omega)), Or.inl⟩
      -- nothing changes at j
      have keep : cov j ∨ ¬ nrA na v d b j → w (nI (cP (fun t => ¬ cov t ∧ nrA na v d b t) j)) (nI j + (1 : Int32)) c' r' := fun hk0 => by
        have eq : ∀ t, (cov t ∨ (t < j + 1 ∧ nrA na v d b t)) ↔ (cov t ∨ (t < j ∧ nrA na v d b t)) := fun t => by
          constructor
          · rintro (z | ⟨z, y⟩)
            · exact Or.inl z
            · rcases Nat.lt_or_ge t j with q | q
              · exact Or.inr ⟨q, y⟩
              · have : t = j := by omega
                subst this
                rcases hk0 with x | x
                · exact Or.inl x
                · exact absurd y x
          · rintro (z | ⟨z, y⟩)
            · exact Or.inl z
            · exact Or.inr ⟨by omega, y⟩
        refine hw _ _ _ _ ⟨j + 1, by omega, nI_1 j, ?_, fun t ht => fl_iff (e1 t ht) (eq t).symm, fun k hk => ?_⟩ dec
        · rw [cP_no]
          rintro ⟨z, y⟩
          rcases hk0 with x | x
          · exact z x
          · exact x y
        · rw [e2 k hk]
          congr 1
          exact cP_congr n (fun t _ => by
            show ¬ (cov t ∨ (t < j ∧ nrA na v d b t)) ∧ _ ↔ ¬ (cov t ∨ (t < j + 1 ∧ nrA na v d b t)) ∧ _
            rw [eq t])
      rw [cl_nI (by omega)]
      refine ⟨hin, fun z => ?_, fun z => keep (Or.inl (fl_yes cj z).1)⟩
      have hnc := fl_no cj z
      refine x_isNear hV hd hb hjn (fun r hrr => ⟨fun y => keep (Or.inr (fl_no hrr y)), fun y => ⟨hin, ?_⟩⟩)
      have hnr := (fl_yes hrr y).1
      refine x_changeReach hV rfl h100 hd hjn (fun r2 hr2 => ?_)
      rw [nar1]
      refine hw _ _ _ _ ⟨j + 1, by omega, nI_1 j, ?_, fun t ht => ?_, fun k hk => ?_⟩ dec
      · rw [nI_1, cP_yes (Pl := fun t => ¬ cov t ∧ nrA na v d b t) ⟨hnc, hnr⟩]
      · by_cases q : t = j
        · subst q
          rw [upd_s]
          exact fl_1 (Or.inr ⟨by omega, hnr⟩)
        · rw [upd_n q]
          exact fl_iff (e1 t ht) ⟨fun x => x.elim Or.inl (fun x => Or.inr ⟨by omega, x.2⟩), fun x => x.elim Or.inl (fun x => Or.inr ⟨by omega, x.2⟩)⟩
      · by_cases q : nrA na v d k j
        · rw [(hr2 k hk).1 q, e2 k hk]
          have e3 : mN n (nrA na v d) (fun t => cov t ∨ (t < j ∧ nrA na v d b t)) k = mN n (nrA na v d) (fun t => cov t ∨ (t < j + 1 ∧ nrA na v d b t)) k + 1 := by
            refine cP_rm n hjn ⟨fun x => x.elim hnc (fun x => absurd x.1 (by omega)), q⟩ (fun t ht => ?_)
            constructor
            · rintro ⟨a, c⟩
              refine ⟨⟨fun x => a (x.elim Or.inl (fun x => Or.inr ⟨by omega, x.2⟩)), c⟩, fun x => a ?_⟩
              rw [x]
              exact Or.inr ⟨by omega, hnr⟩
            · rintro ⟨⟨a, c⟩, e⟩
              exact ⟨fun x => a (x.elim Or.inl (fun x => Or.inr ⟨by omega, x.2⟩)), c⟩
          rw [e3]
          exact pk_m1 _
        · rw [(hr2 k hk).2 q, e2 k hk]
          congr 1
          refine cP_congr n (fun t ht => ?_)
          constructor
          · rintro ⟨a, c⟩
            refine ⟨fun x => a (x.elim Or.inl (fun x => ?_)), c⟩
            by_cases e : t = j
            · subst e
              exact absurd c q
            · exact Or.inr ⟨by omega, x.2⟩
          · rintro ⟨a, c⟩
            exact ⟨fun x => a (x.elim Or.inl (fun x => Or.inr ⟨by omega, x.2⟩)), c⟩
  · rw [hr k hk]
    congr 1
    refine cP_congr n (fun t _ => ?_)
    constructor
    · rintro ⟨a, c⟩
      exact ⟨fun z => a (z.elim id (fun y => absurd y.1 (Nat.not_lt_zero _))), c⟩
    · rintro ⟨a, c⟩
      exact ⟨fun z => a (Or.inl z), c⟩
theorem m_cover (hV : FV na nf v scores FP PS) {covered picks reach isNear pick : Nat → Int32} {cs csz pks x : Int32} {K : Int32 → (Nat → Int32) → (Nat → Int32) → (Nat → Int32) → Int32 → Int32 → Int32 → (Nat → Int32) → (Nat → Int32) → Int32 → Prop}
    (hK0 : ∀ r, K r covered picks reach cs csz r isNear pick pks) (hK : ∀ (np : Nat) c p rc s is pk, np ≤ 100 → (∀ i, i < np → p i = pk i) → K (nI np) c p rc s (nI np) (nI np) is pk (nI np)) :
    wp_X6_cover covered picks reach cs csz scores (nI nf) x (fun r c p rc s z => wp_X7_cover (nI na) (nI nf) FP isNear pick pks PS x (fun r' is pk pz => K r c p rc s z r' is pk pz)) := by
  have hV' := hV
  obtain ⟨n1, n2, n3⟩ := hV'
  have t4 : Int32.toInt 4000 = 4000 := rfl
  have t0 : Int32.toInt 0 = 0 := rfl
  -- the model refuses
  have out : ∀ c p rc s z r, ¬ (0 ≤ x.toInt ∧ x.toInt ≤ 4000) → K r c p rc s z (-1000001) isNear pick pks → wp_X7_cover (nI na) (nI nf) FP isNear pick pks PS x (fun r' is pk pz => K r c p rc s z r' is pk pz) := fun c p rc s z r hx hk => by
    unfold wp_X7_cover
    exact w_inI (a := 0) (b := 4000) (fun q1 q2 => absurd ⟨q1, q2⟩ hx) (fun _ => ⟨fun _ => hk, fun y => absurd rfl y⟩)
  unfold wp_X6_cover
  refine ⟨fun q => ?_, fun q => ⟨fun q2 => ⟨fun q3 => ?_, fun q3 => ?_⟩, fun q2 => ?_⟩⟩
  · refine out _ _ _ _ _ _ (fun z => ?_) (hK0 _)
    rw [Int32.lt_iff_toInt_lt] at q
    omega
  · obtain ⟨d, hd0, rfl⟩ := nI_of q
    have hd : d ≤ 4000 := (nI_leI (b := 4000) hd0 (by omega)).mp q2
    have h100 : nf ≤ 100 := (nI_leI (b := 100) (by omega) (by omega)).mp q3
    have hrf : ∀ t, t < nf → nrA na v d t t := fun t _ a _ => by omega
    have emin : (if (100 : Int32) < nI nf then (100 : Int32) else nI nf) = nI nf := if_neg (fun z => by
      have := (nI_ltI (a := 100) (by omega) (by omega)).mp z
      omega)
    -- the model, where the class has ended behind i picks
    have model : ∀ (i : Nat) c p rc s, opI nf (nrA na v d) i = 0 → (∀ j, j < i → 0 < opI nf (nrA na v d) j) → (∀ j, j < i → p j = nI (bN nf (nrA na v d) (cvI nf (nrA na v d) j))) → wp_X7_cover (nI na) (nI nf) FP isNear pick pks PS (nI d) (fun r' is pk pz => K (nI i) c p rc s (nI i) r' is pk pz) := by
      intro i c p rc s hi0 hi1 hpi
      have hile : i ≤ 100 := by
        cases i with
        | zero => omega
        | succ i =>
          have h1 := op_le (n := nf) (nr := nrA na v d) hrf i
          have h2 := hi1 i (by omega)
          omega
      unfold wp_X7_cover
      refine w_inI (a := 0) (b := 4000) (fun _ _ => ⟨fun y => absurd y (by decide), fun _ => ⟨fun _ => ?_, fun y => absurd q3 y⟩⟩) (fun y => absurd ⟨by rw [nI_toInt hd0]; omega, by rw [nI_toInt hd0]; omega⟩ y)
      refine Lq2_inv (fun x is => ∃ j : Nat, j ≤ nf ∧ x = nI j ∧ ∀ t, t < j → is t = 0) (fun x _ => nf - x.toNatClampNeg) ?_ _ _ ⟨0, Nat.zero_le _, rfl, fun t h => absurd h (Nat.not_lt_zero _)⟩
      rintro x is ⟨j, hj, rfl, his⟩ w hw
      unfold b_X7_cover_29
      refine ⟨fun hle => ?_, fun hlt => ?_⟩
      · have : nf ≤ j := (nI_leI (by omega) (by omega)).mp hle
        refine Lq4_inv (fun l is pk z => ∃ m : Nat, z = nI m ∧ l = nI (opI nf (nrA na v d) m) ∧ (∀ t, t < nf → fl (is t) (cvI nf (nrA na v d) m t)) ∧ (∀ j, j < m → 0 < opI nf (nrA na v d) j) ∧ ∀ j, j < m → pk j = nI (bN nf (nrA na v d) (cvI nf (nrA na v d) j))) (fun l _ _ _ => l.toNatClampNeg) ?_ _ _ _ _ ⟨0, rfl, ?_, fun t ht => ?_, fun j h => absurd h (Nat.not_lt_zero _), fun j h => absurd h (Nat.not_lt_zero _)⟩
        · rintro l is2 pk z ⟨m, rfl, rfl, f1, f2, f3⟩ w2 hw2
          have hopn : opI nf (nrA na v d) m ≤ nf := cP_le nf
          unfold b_X7_cover_60
          refine ⟨fun y => ?_, fun y => ?_⟩
          · have hz : opI nf (nrA na v d) m = 0 := by
              have := (nI_leI (b := 0) (by omega) (by omega)).mp y
              omega
            have em : m = i := by
              rcases Nat.lt_trichotomy m i with u | u | u
              · have := hi1 m u
                omega
              · exact u
              · have := f2 i u
                omega
            subst em
            exact hK m c p rc s is2 pk hile (fun j hj2 => by rw [hpi j hj2, f3 j hj2])
          · have hpos : 0 < opI nf (nrA na v d) m := by
              rcases Nat.lt_or_ge 0 (opI nf (nrA na v d) m) with u | u
              · exact u
              · exact absurd ((nI_leI (b := 0) (by omega) (by omega)).mpr u) y
            have hnf : 0 < nf := by omega
            have hol := op_le (n := nf) (nr := nrA na v d) hrf m
            have hbl := bN_lt (nr := nrA na v d) (cov := cvI nf (nrA na v d) m) hnf
            refine Lq3_inv (fun b mo s => ∃ j : Nat, j ≤ nf ∧ s = nI j ∧ ((j = 0 ∧ b = 0 ∧ mo = 0) ∨ (0 < j ∧ b = nI (bestF (fun k o => mN nf (nrA na v d) (cvI nf (nrA na v d) m) o < mN nf (nrA na v d) (cvI nf (nrA na v d) m) k) (j - 1)) ∧ mo = nI (mN nf (nrA na v d) (cvI nf (nrA na v d) m) (bestF (fun k o => mN nf (nrA na v d) (cvI nf (nrA na v d) m) o < mN nf (nrA na v d) (cvI nf (nrA na v d) m) k) (j - 1)))))) (fun _ _ s => nf - s.toNatClampNeg) ?_ _ _ _ ⟨0, Nat.zero_le _, rfl, Or.inl ⟨rfl, rfl, rfl⟩⟩
            rintro b mo s2 ⟨j, hj, rfl, hb⟩ w3 hw3
            unfold b_X7_cover_72
            refine ⟨fun hle => ?_, fun hlt => ?_⟩
            · have : nf ≤ j := (nI_leI (by omega) (by omega)).mp hle
              have : j = nf := by omega
              subst this
              rcases hb with hb | ⟨-, rfl, rfl⟩
              · omega
              · have ebN : bestF (fun k o => mN j (nrA na v d) (cvI j (nrA na v d) m) o < mN j (nrA na v d) (cvI j (nrA na v d) m) k) (j - 1) = bN j (nrA na v d) (cvI j (nrA na v d) m) := rfl
                rw [ebN]
                refine Lq2_inv (fun x is3 => ∃ t : Nat, t ≤ j ∧ x = nI t ∧ (∀ t', t' < t → fl (is3 t') (cvI j (nrA na v d) (m + 1) t')) ∧ ∀ t', t ≤ t' → t' < j → fl (is3 t') (cvI j (nrA na v d) m t')) (fun x _ => j - x.toNatClampNeg) ?_ _ _ ⟨0, Nat.zero_le _, rfl, fun t h => absurd h (Nat.not_lt_zero _), fun t _ ht => f1 t ht⟩
                rintro x is3 ⟨t, ht, rfl, g1, g2⟩ w4 hw4
                unfold b_X7_cover_173
                refine ⟨fun hle => ?_, fun hlt => ?_⟩
                · have : j ≤ t := (nI_leI (by omega) (by omega)).mp hle
                  have hs := op_step (n := j) (nr := nrA na v d) (i := m)
                  have hmp := m_pos hrf hpos
                  have esub : nI (opI j (nrA na v d) m) - nI (mN j (nrA na v d) (cvI j (nrA na v d) m) (bN j (nrA na v d) (cvI j (nrA na v d) m))) = nI (opI j (nrA na v d) (m + 1)) := by
                    rw [pk_sub (by omega)]
                    congr 1
                    omega
                  rw [esub, cl_nI (by omega)]
                  refine ⟨vp_in_nI (by omega) (by decide), hw2 _ _ _ _ ⟨m + 1, nI_1 m, rfl, fun t' ht' => g1 t' (by omega), all_succ.mpr ⟨f2, hpos⟩, fun j' hj' => ?_⟩ ?_⟩
                  · by_cases u : j' = m
                    · subst u
                      rw [upd_s]
                    · rw [upd_n u]
                      exact f3 j' (by omega)
                  · rw [cl_nI (by omega), cl_nI (by omega)]
                    omega
                · have htn := nI_leN (by omega) (by omega) hlt
                  have hin : vp_in (nI t) 2000 := vp_in_nI (by omega) (by decide)
                  have dec : j - (nI t + 1).toNatClampNeg < j - (nI t).toNatClampNeg := by
                    rw [nI_1, cl_nI (by omega), cl_nI (by omega)]
                    omega
                  have g0 := g2 t (Nat.le_refl _) htn
                  have next : ∀ u, fl u (cvI j (nrA na v d) (m + 1) t) → w4 (nI t + (1 : Int32)) (upd is3 t u) := fun u hu => hw4 _ _ ⟨t + 1, by omega, nI_1 t, fun t' ht' => by
                    by_cases e : t' = t
                    · subst e
                      rw [upd_s]
                      exact hu
                    · rw [upd_n e]
                      exact g1 t' (by omega), fun t' h1 h2 => by
                    rw [upd_n (by omega)]
                    exact g2 t' (by omega) h2⟩ dec
                  rw [cl_nI (by omega), nar0, nar1]
                  refine ⟨hin, fun e => y_near hV hd hbl htn (fun r hr => ⟨fun e2 => ⟨hin, next 0 (fl_0 (fun u => ?_))⟩, fun e2 => ⟨hin, next 1 (fl_1 (Or.inr (fl_yes hr e2).1))⟩⟩), fun e => ⟨hin, next 1 (fl_1 (Or.inl (fl_yes g0 e).1))⟩⟩
                  rcases u with u | u
                  · exact fl_no g0 e u
                  · exact fl_no hr e2 u
            · have hjn := nI_leN (by omega) (by omega) hlt
              have dec : nf - (nI j + 1).toNatClampNeg < nf - (nI j).toNatClampNeg := by
                rw [nI_1, cl_nI (by omega), cl_nI (by omega)]
                omega
              refine Lq2_inv (fun c2 x => ∃ t : Nat, t ≤ nf ∧ x = nI t ∧ c2 = nI (cP (fun t => ¬ cvI nf (nrA na v d) m t ∧ nrA na v d j t) t)) (fun _ x => nf - x.toNatClampNeg) ?_ _ _ ⟨0, Nat.zero_le _, rfl, rfl⟩
              rintro c2 x ⟨t, ht, rfl, rfl⟩ w4 hw4
              unfold b_X7_cover_87
              refine ⟨fun hle => ?_, fun hlt2 => ?_⟩
              · have : nf ≤ t := (nI_leI (by omega) (by omega)).mp hle
                have : t = nf := by omega
                subst this
                have em : cP (fun t' => ¬ cvI t (nrA na v d) m t' ∧ nrA na v d j t') t = mN t (nrA na v d) (cvI t (nrA na v d) m) j := rfl
                rw [em]
                have hmj : mN t (nrA na v d) (cvI t (nrA na v d) m) j ≤ t := mN_le
                unfold jn1
                rcases hb with ⟨rfl, rfl, rfl⟩ | ⟨hj0, rfl, rfl⟩
                · refine ⟨fun u => ⟨fun _ => ?_, fun e => absurd u e⟩, fun u => ⟨fun e => absurd e u, fun _ => hw3 _ _ _ ⟨0 + 1, by omega, nI_1 0, Or.inr ⟨by omega, rfl, rfl⟩⟩ dec⟩⟩
                  have hz : mN t (nrA na v d) (cvI t (nrA na v d) m) 0 = 0 := by
                    have := (nI_leI (b := 0) (by omega) (by omega)).mp u
                    omega
                  refine hw3 _ _ _ ⟨0 + 1, by omega, nI_1 0, Or.inr ⟨by omega, rfl, ?_⟩⟩ dec
                  show (0 : Int32) = nI (mN t (nrA na v d) (cvI t (nrA na v d) m) 0)
                  rw [hz]
                  rfl
                · have bl := bestF_le (less := fun k o => mN t (nrA na v d) (cvI t (nrA na v d) m) o < mN t (nrA na v d) (cvI t (nrA na v d) m) k) (j - 1)
                  have ej : j - 1 + 1 = j := by omega
                  have hmb : mN t (nrA na v d) (cvI t (nrA na v d) m) (bestF (fun k o => mN t (nrA na v d) (cvI t (nrA na v d) m) o < mN t (nrA na v d) (cvI t (nrA na v d) m) k) (j - 1)) ≤ t := mN_le
                  refine ⟨fun u => ⟨fun _ => ?_, fun e => absurd u e⟩, fun u => ⟨fun e => absurd e u, fun _ => ?_⟩⟩
                  · rw [nI_leI (by omega) (by omega)] at u
                    have e := bestF_no (less := fun k o => mN t (nrA na v d) (cvI t (nrA na v d) m) o < mN t (nrA na v d) (cvI t (nrA na v d) m) k) (n := j - 1) (by show ¬ _ < _; rw [ej]; omega)
                    rw [ej] at e
                    exact hw3 _ _ _ ⟨j + 1, by omega, nI_1 j, Or.inr ⟨by omega, by rw [Nat.add_sub_cancel, e], by rw [Nat.add_sub_cancel, e]⟩⟩ dec
                  · rw [nI_leI (by omega) (by omega)] at u
                    have e := bestF_yes (less := fun k o => mN t (nrA na v d) (cvI t (nrA na v d) m) o < mN t (nrA na v d) (cvI t (nrA na v d) m) k) (n := j - 1) (by show _ < _; rw [ej]; omega)
                    rw [ej] at e
                    exact hw3 _ _ _ ⟨j + 1, by omega, nI_1 j, Or.inr ⟨by omega, by rw [Nat.add_sub_cancel, e], by rw [Nat.add_sub_cancel, e]⟩⟩ dec
              · have htn := nI_leN (by omega) (by omega) hlt2
                have dec2 : nf - (nI t + 1).toNatClampNeg < nf - (nI t).toNatClampNeg := by
                  rw [nI_1, cl_nI (by omega), cl_nI (by omega)]
                  omega
                have yes : ¬ cvI nf (nrA na v d) m t ∧ nrA na v d j t → w4 (nI (cP (fun t => ¬ cvI nf (nrA na v d) m t ∧ nrA na v d j t) t) + (1 : Int32)) (nI t + (1 : Int32)) := fun u => hw4 _ _ ⟨t + 1, by omega, nI_1 t, by rw [nI_1, cP_yes (Pl := fun t => ¬ cvI nf (nrA na v d) m t ∧ nrA na v d j t) u]⟩ dec2
                have no : ¬ (¬ cvI nf (nrA na v d) m t ∧ nrA na v d j t) → w4 (nI (cP (fun t => ¬ cvI nf (nrA na v d) m t ∧ nrA na v d j t) t) + (0 : Int32)) (nI t + (1 : Int32)) := fun u => hw4 _ _ ⟨t + 1, by omega, nI_1 t, by rw [Int32.add_zero, cP_no (Pl := fun t => ¬ cvI nf (nrA na v d) m t ∧ nrA na v d j t) u]⟩ dec2
                rw [cl_nI (by omega)]
                refine ⟨vp_in_nI (by omega) (by decide), fun e => y_near hV hd hjn htn (fun r hr => ⟨fun e2 => no (fun u => fl_no hr e2 u.2), fun e2 => yes ⟨fl_no (f1 t htn) e, (fl_yes hr e2).1⟩⟩), fun e => no (fun u => u.1 (fl_yes (f1 t htn) e).1)⟩
        · have : opI nf (nrA na v d) 0 = nf := by
            have h1 := cP_split (P := fun _ => True) (Q := fun t => ¬ cvI nf (nrA na v d) 0 t) nf
            have h2 : cP (fun t => True ∧ ¬¬ cvI nf (nrA na v d) 0 t) nf = 0 := by
              rcases Nat.eq_zero_or_pos (cP (fun t => True ∧ ¬¬ cvI nf (nrA na v d) 0 t) nf) with u | u
              · exact u
              · obtain ⟨t, -, -, ht2⟩ := cP_ex u
                exact absurd (fun (y : cvI nf (nrA na v d) 0 t) => y) ht2
            have h3 : cP (fun t => True ∧ ¬ cvI nf (nrA na v d) 0 t) nf = opI nf (nrA na v d) 0 := cP_congr nf (fun t _ => ⟨fun u => u.2, fun u => ⟨trivial, u⟩⟩)
            have h4 : ∀ n, cP (fun _ => True) n = n := fun n => by
              induction n with
              | zero => rfl
              | succ n ih => rw [cP_yes trivial, ih]
            rw [h4, h2, h3] at h1
            omega
          rw [this]
        · rw [his t (by omega)]
          exact fl_0 (fun u => u)
      · have hjn := nI_leN (by omega) (by omega) hlt
        rw [cl_nI (by omega), nar0]
        refine ⟨vp_in_nI (by omega) (by decide), hw _ _ ⟨j + 1, by omega, nI_1 j, fun t ht => ?_⟩ ?_⟩
        · by_cases e : t = j
          · subst e
            rw [upd_s]
          · rw [upd_n e]
            exact his t (by omega)
        · rw [nI_1, cl_nI (by omega), cl_nI (by omega)]
          omega
    -- the class
    unfold wp_X2_pick
    have all0 : opI nf (nrA na v d) 0 = nf := by
      have h4 : ∀ n, cP (fun t => ¬ cvI nf (nrA na v d) 0 t) n = n := fun n => by
        induction n with
        | zero => rfl
        | succ n ih => rw [cP_yes (Pl := fun t => ¬ cvI nf (nrA na v d) 0 t) (fun u => u), ih]
      exact h4 nf
    refine Lq3_inv (fun x c rc => ∃ j : Nat, j ≤ nf ∧ x = nI j ∧ ∀ t, t < j → c t = 0 ∧ rc t = 0) (fun x _ _ => nf - x.toNatClampNeg) ?_ _ _ _ ⟨0, Nat.zero_le _, rfl, fun t h => absurd h (Nat.not_lt_zero _)⟩
    rintro x c rc ⟨j, hj, rfl, hcr⟩ w hw
    unfold b_X2_pick_23
    rw [emin]
    refine ⟨fun hle => ?_, fun hlt => ?_⟩
    · have hjn : nf ≤ j := (nI_leI (by omega) (by omega)).mp hle
      refine Lq2_inv (fun x rc => ∃ t : Nat, t ≤ nf ∧ x = nI t ∧ ∀ k, k < nf → rc k = nI (cP (fun t => ¬ cvI nf (nrA na v d) 0 t ∧ nrA na v d k t) t)) (fun x _ => nf - x.toNatClampNeg) ?_ _ _ ⟨0, Nat.zero_le _, rfl, fun k hk => (hcr k (by omega)).2⟩
      rintro x rc2 ⟨t, ht, rfl, hrc⟩ w2 hw2
      unfold b_X2_pick_57
      rw [emin]
      refine ⟨fun hle2 => ?_, fun hlt2 => ?_⟩
      · have htn : nf ≤ t := (nI_leI (by omega) (by omega)).mp hle2
        have htn2 : t = nf := by omega
        subst htn2
        refine Lq6_inv (fun o x c p rc z => ∃ m : Nat, m ≤ t ∧ x = nI m ∧ z = nI m ∧ o = nI (opI t (nrA na v d) m) ∧ (∀ t', t' < t → fl (c t') (cvI t (nrA na v d) m t')) ∧ (∀ k, k < t → rc k = nI (mN t (nrA na v d) (cvI t (nrA na v d) m) k)) ∧ (∀ j, j < m → 0 < opI t (nrA na v d) j) ∧ ∀ j, j < m → p j = nI (bN t (nrA na v d) (cvI t (nrA na v d) j))) (fun o _ _ _ _ _ => o.toNatClampNeg) ?_ _ _ _ _ _ _ ⟨0, Nat.zero_le _, rfl, rfl, by rw [all0], fun t' ht' => by rw [(hcr t' (by omega)).1]; exact fl_0 (fun u => u), fun k hk => hrc k hk, fun j h => absurd h (Nat.not_lt_zero _), fun j h => absurd h (Nat.not_lt_zero _)⟩
        rintro o x c2 p rc3 z ⟨m, hmt, rfl, rfl, rfl, f1, f2, f3, f4⟩ w3 hw3
        have hopn : opI t (nrA na v d) m ≤ t := cP_le t
        have hol := op_le (n := t) (nr := nrA na v d) hrf m
        unfold b_X2_pick_95
        rw [emin]
        refine ⟨fun y2 => ?_, fun y2 => ⟨fun y => ?_, fun y => ?_⟩⟩
        · have hz : opI t (nrA na v d) m = 0 := by
            have := (nI_leI (by omega) (by omega)).mp y2
            rcases Nat.lt_or_ge 0 (opI t (nrA na v d) m) with u | u <;> omega
          exact model m _ _ _ _ hz f3 f4
        · have hz : opI t (nrA na v d) m = 0 := by
            have := (nI_leI (b := 0) (by omega) (by omega)).mp y
            omega
          exact model m _ _ _ _ hz f3 f4
        · have hpos : 0 < opI t (nrA na v d) m := by
            rcases Nat.lt_or_ge 0 (opI t (nrA na v d) m) with u | u
            · exact u
            · exact absurd ((nI_leI (b := 0) (by omega) (by omega)).mpr u) y
          have ht0 : 0 < t := by omega
          have hbl := bN_lt (nr := nrA na v d) (cov := cvI t (nrA na v d) m) ht0
          refine x_furthest ht0 h100 f2 (fun k _ => Nat.lt_of_le_of_lt mN_le (by omega)) ?_
          have hmn := nI_leN (by omega) (by omega) y2
          have hin : vp_in (nI m) 100 := vp_in_nI (by omega) (by decide)
          rw [upd_s]
          refine ⟨hin, hin, x_coverFrom hV rfl h100 hd hbl f1 f2 (fun c' r' g1 g2 => ?_)⟩
          have hs := op_step (n := t) (nr := nrA na v d) (i := m)
          have hmp := m_pos hrf hpos
          have esub : nI (opI t (nrA na v d) m) - nI (mN t (nrA na v d) (cvI t (nrA na v d) m) (bN t (nrA na v d) (cvI t (nrA na v d) m))) = nI (opI t (nrA na v d) (m + 1)) := by
            rw [pk_sub (by omega)]
            congr 1
            omega
          have ebN : bestF (fun k o => mN t (nrA na v d) (cvI t (nrA na v d) m) o < mN t (nrA na v d) (cvI t (nrA na v d) m) k) (t - 1) = bN t (nrA na v d) (cvI t (nrA na v d) m) := rfl
          rw [ebN, esub, cl_nI (by omega)]
          refine hw3 _ _ _ _ _ _ ⟨m + 1, by omega, nI_1 m, nI_1 m, rfl, g1, g2, all_succ.mpr ⟨f3, hpos⟩, fun j' hj' => ?_⟩ ?_
          · by_cases u : j' = m
            · subst u
              rw [upd_s]
            · rw [upd_n u]
              exact f4 j' (by omega)
          · rw [cl_nI (by omega), cl_nI (by omega)]
            omega
      · have htn := nI_leN (by omega) (by omega) hlt2
        refine x_changeReach hV rfl h100 hd htn (fun r' hr' => hw2 _ _ ⟨t + 1, by omega, nI_1 t, fun k hk => ?_⟩ ?_)
        · by_cases u : nrA na v d k t
          · rw [(hr' k hk).1 u, hrc k hk, nI_1, cP_yes (Pl := fun t => ¬ cvI nf (nrA na v d) 0 t ∧ nrA na v d k t) ⟨fun u => u, u⟩]
          · rw [(hr' k hk).2 u, hrc k hk, cP_no (Pl := fun t => ¬ cvI nf (nrA na v d) 0 t ∧ nrA na v d k t) (fun z => u z.2)]
        · rw [nI_1, cl_nI (by omega), cl_nI (by omega)]
          omega
    · have hjn := nI_leN (by omega) (by omega) hlt
      have hin : vp_in (nI j) 100 := vp_in_nI (by omega) (by decide)
      rw [cl_nI (by omega), nar0]
      refine ⟨hin, hin, hw _ _ _ ⟨j + 1, by omega, nI_1 j, fun t ht => ?_⟩ ?_⟩
      · by_cases e : t = j
        · subst e
          rw [upd_s, upd_s]
          exact ⟨rfl, rfl⟩
        · rw [upd_n e, upd_n e]
          exact hcr t (by omega)
      · rw [nI_1, cl_nI (by omega), cl_nI (by omega)]
        omega
  · unfold wp_X7_cover
    have q1 := i_nlt q
    rw [Int32.le_iff_toInt_le] at q1 q2
    exact w_inI (a := 0) (b := 4000) (fun _ _ => ⟨fun y => absurd y (by decide), fun _ => ⟨fun y => absurd y q3, fun _ => hK0 _⟩⟩) (fun y => absurd ⟨q1, q2⟩ y)
  · refine out _ _ _ _ _ _ (fun z => ?_) (hK0 _)
    have q1 := i_nle q2
    rw [Int32.lt_iff_toInt_lt] at q1
    omega
end CV

/-! ===== the class's front: one more plan ===== -/
theorem inj_le : ∀ (m n : Nat) (f : Nat → Nat), (∀ i, i < n → f i < m) → (∀ i j, i < j → j < n → f i ≠ f j) → n ≤ m
  | 0, n, f, h1, _ => by
    cases n with
    | zero => exact Nat.le_refl 0
    | succ n => exact absurd (h1 0 (by omega)) (Nat.not_lt_zero _)
  | m + 1, n, f, h1, h2 => by
    cases n with
    | zero => exact Nat.zero_le _
    | succ n =>
      by_cases hx : ∃ i, i < n + 1 ∧ f i = m
      · obtain ⟨i0, hi0, e0⟩ := hx
        have := inj_le m n (fun i => f (if i < i0 then i else i + 1)) (fun i hi => by
          show f (if i < i0 then i else i + 1) < m
          have hb : (if i < i0 then i else i + 1) < n + 1 := by split <;> omega
          have h3 := h1 _ hb
          have h4 : f (if i < i0 then i else i + 1) ≠ m := fun e => by
            rw [← e0] at e
            by_cases y : i < i0
            · rw [if_pos y] at e
              exact h2 i i0 y hi0 e
            · rw [if_neg y] at e
              exact h2 i0 (i + 1) (by omega) (by omega) e.symm
          omega) (fun i j hij hj => by
          show f (if i < i0 then i else i + 1) ≠ f (if j < i0 then j else j + 1)
          refine h2 _ _ ?_ ?_
          · split <;> split <;> omega
          · split <;> omega)
        omega
      · exact Nat.le_succ_of_le (inj_le m (n + 1) f (fun i hi => by
          have h3 := h1 i hi
          have h4 : f i ≠ m := fun e => hx ⟨i, hi, e⟩
          omega) h2)
theorem FS_le {np nf : Nat} {L : Nat → Nat → Nat} {fp : Nat → Nat} (h : FS np L nf fp) : nf ≤ np :=
  inj_le np nf fp h.1 (fun i j hij hj e => by
    have := h.2.2.2.1 i j hij hj
    rw [e] at this
    omega)
theorem P4_63 {q : Nat → Nat} (h : ∀ a, a < 4 → q a < 16384) : P4 q < 2 ^ 63 := Nat.lt_trans (P4_lt h) (by decide)
theorem w_placeOf {q : Nat → Nat → Nat} {nf : Nat} (hn : nf ≤ 2000) {scores : Nat → Int64} (hq : ∀ k, k < nf → ∀ a, a < 4 → q k a < 16384) (hs : ∀ k, k < nf → scores k = lN (P4 (q k))) (hsort : ∀ i j, i < j → j < nf → P4 (q i) < P4 (q j)) {s : Nat} (hs63 : s < 2 ^ 63) {post : Int32 → Prop}
    (h : ∀ k, k ≤ nf → (∀ i, i < k → P4 (q i) < s) → (∀ i, k ≤ i → i < nf → s ≤ P4 (q i)) → post (nI k)) : wp_X3_placeOf scores (nI nf) (lN s) post := by
  unfold wp_X3_placeOf
  refine Lq2_inv (fun x y => ∃ a b : Nat, a ≤ b ∧ b ≤ nf ∧ x = nI a ∧ y = nI b ∧ (∀ i, i < a → P4 (q i) < s) ∧ ∀ i, b ≤ i → i < nf → s ≤ P4 (q i)) (fun x y => y.toNatClampNeg - x.toNatClampNeg) ?_ _ _ ⟨0, nf, Nat.zero_le _, Nat.le_refl _, rfl, rfl, fun i hi => absurd hi (Nat.not_lt_zero _), fun i h1 h2 => absurd h1 (by omega)⟩
  rintro x y ⟨a, b, hab, hb, rfl, rfl, h1, h2⟩ w hw
  unfold b_X3_placeOf_8
  refine ⟨fun hle => ?_, fun hlt => ?_⟩
  · have : b ≤ a := (nI_leI (by omega) (by omega)).mp hle
    have : a = b := by omega
    subst this
    exact h a hb h1 h2
  · have hlt' := nI_leN (by omega) (by omega) hlt
    have em : ((nI a + nI b).toUInt32 >>> (((1 : Int32)).toUInt32 &&& Int32.toUInt32 31)).toInt32 = nI ((a + b) / 2) := by
      rw [nI_add]
      exact pk_ushrN (by omega) 1 1 (by decide)
    rw [em]
    have hm : (a + b) / 2 < nf := by omega
    rw [cl_nI (by omega), hs _ hm]
    refine ⟨vp_in_nI (by omega) (by decide), fun hq2 => ?_, fun hq2 => ?_⟩
    · have hle := (pk_lLE hs63 (P4_63 (hq _ hm))).mp hq2
      refine hw _ _ ⟨a, (a + b) / 2, by omega, by omega, rfl, rfl, h1, fun i hi1 hi2 => ?_⟩ ?_
      · rcases Nat.lt_or_ge ((a + b) / 2) i with z | z
        · exact Nat.le_trans hle (Nat.le_of_lt (hsort _ _ z hi2))
        · have : i = (a + b) / 2 := by omega
          subst this
          exact hle
      · rw [cl_nI (by omega), cl_nI (by omega), cl_nI (by omega)]
        omega
    · have hgt : P4 (q ((a + b) / 2)) < s := by
        rcases Nat.lt_or_ge (P4 (q ((a + b) / 2))) s with z | z
        · exact z
        · exact absurd ((pk_lLE hs63 (P4_63 (hq _ hm))).mpr z) hq2
      refine hw _ _ ⟨(a + b) / 2 + 1, b, by omega, hb, nI_1 _, rfl, fun i hi => ?_, h2⟩ ?_
      · rcases Nat.lt_or_ge i ((a + b) / 2) with z | z
        · exact Nat.lt_trans (hsort _ _ z hm) hgt
        · have : i = (a + b) / 2 := by omega
          subst this
          exact hgt
      · rw [nI_1, cl_nI (by omega), cl_nI (by omega), cl_nI (by omega)]
        omega
theorem w_isBeaten {q : Nat → Nat → Nat} {k : Nat} (hk : k ≤ 2000) {scores : Nat → Int64} (hq : ∀ i, i < k → ∀ a, a < 4 → q i a < 16384) (hs : ∀ i, i < k → scores i = lN (P4 (q i))) {s : Nat → Nat} (hsl : ∀ a, a < 4 → s a < 16384) {post : Int32 → Prop} (h1 : (∃ i, i < k ∧ dm (q i) s) → post 1) (h0 : ¬ (∃ i, i < k ∧ dm (q i) s) → post 0) : wp_X3_isBeaten scores (lN (P4 s)) (nI k) post := by
  unfold wp_X3_isBeaten
  refine Lq1_inv (fun x => ∃ j : Nat, j ≤ k ∧ x = nI j ∧ ∀ i, i < j → ¬ dm (q i) s) (fun x => k - x.toNatClampNeg) ?_ _ ⟨0, Nat.zero_le _, rfl, fun i hi => absurd hi (Nat.not_lt_zero _)⟩
  rintro x ⟨j, hj, rfl, hno⟩ w hw
  unfold b_X3_isBeaten_3
  refine ⟨fun hle => ?_, fun hlt => ?_⟩
  · have : k ≤ j := (nI_leI (by omega) (by omega)).mp hle
    have : j = k := by omega
    subst this
    exact h0 (fun ⟨i, hi, hd⟩ => hno i hi hd)
  · have hjk := nI_leN (by omega) (by omega) hlt
    rw [cl_nI (by omega), hs j hjk]
    refine ⟨vp_in_nI (by omega) (by decide), w_ing (hq j hjk) hsl (fun hd => ⟨fun z => absurd z (by decide), fun _ => h1 ⟨j, hjk, hd⟩⟩) (fun hd => ⟨fun _ => hw _ ⟨j + 1, by omega, nI_1 j, all_succ.mpr ⟨hno, hd⟩⟩ ?_, fun z => absurd rfl z⟩)⟩
    rw [nI_1, cl_nI (by omega), cl_nI (by omega)]
    omega
theorem updL_s {f : Nat → Int64} {k : Nat} {x : Int64} : vp_updL f k x k = x := pk_uLs
theorem updL_n {f : Nat → Int64} {k j : Nat} {x : Int64} (h : j ≠ k) : vp_updL f k x j = f j := pk_uLn h
theorem w_move {i m : Nat} (hi : i < 2000) (hm : m < 2000) {counts points : Nat → Int32} {scores : Nat → Int64} {post : (Nat → Int32) → (Nat → Int32) → (Nat → Int64) → Prop}
    (h : ∀ c p s, (c m = counts i ∧ p m = points i ∧ s m = scores i) → (∀ j, j ≠ m → c j = counts j ∧ p j = points j ∧ s j = scores j) → post c p s) : wp_X3_move counts points scores (nI i) (nI m) post := by
  unfold wp_X3_move
  refine ⟨fun e => ?_, fun _ => ?_⟩
  · have : i = m := (nI_eq (by omega) (by omega)).mp e
    subst this
    exact h _ _ _ ⟨rfl, rfl, rfl⟩ (fun _ _ => ⟨rfl, rfl, rfl⟩)
  · have hi' : vp_in (nI i) 2000 := vp_in_nI hi (by decide)
    have hm' : vp_in (nI m) 2000 := vp_in_nI hm (by decide)
    rw [cl_nI (by omega), cl_nI (by omega)]
    exact ⟨hi', hm', hi', hm', hi', hm', h _ _ _ ⟨upd_s, upd_s, updL_s⟩ (fun j hj => ⟨upd_n hj, upd_n hj, updL_n hj⟩)⟩
theorem w_dropBeaten {q : Nat → Nat → Nat} {nf k : Nat} (hn : nf ≤ 2000) (hk : k ≤ nf) {counts points : Nat → Int32} {scores : Nat → Int64} (hq : ∀ i, i < nf → ∀ a, a < 4 → q i a < 16384) (hs : ∀ i, i < nf → scores i = lN (P4 (q i))) {s : Nat → Nat} (hsl : ∀ a, a < 4 → s a < 16384) {post : (Nat → Int32) → (Nat → Int32) → (Nat → Int64) → Int32 → Prop}
    (h : ∀ (m : Nat) (e : Nat → Nat) (c p : Nat → Int32) (sc : Nat → Int64), k ≤ m → m ≤ nf → (∀ i, i < k → e i = i) → (∀ i j, i < j → j < m → e i < e j) → (∀ i, i < m → e i < nf) → (∀ i, k ≤ i → i < m → k ≤ e i ∧ ¬ dm s (q (e i))) → (∀ j, k ≤ j → j < nf → ¬ dm s (q j) → ∃ i, i < m ∧ e i = j) → (∀ i, i < m → c i = counts (e i) ∧ p i = points (e i) ∧ sc i = scores (e i)) → post c p sc (nI m)) :
    wp_X3_dropBeaten counts points scores (nI nf) (lN (P4 s)) (nI k) post := by
  unfold wp_X3_dropBeaten
  refine Lq5_inv (fun x y c p sc => ∃ (m j : Nat) (e : Nat → Nat), k ≤ m ∧ m ≤ j ∧ j ≤ nf ∧ x = nI m ∧ y = nI j ∧ (∀ i, i < k → e i = i) ∧ (∀ i j, i < j → j < m → e i < e j) ∧ (∀ i, i < m → e i < j) ∧ (∀ i, k ≤ i → i < m → k ≤ e i ∧ ¬ dm s (q (e i))) ∧ (∀ i, k ≤ i → i < j → ¬ dm s (q i) → ∃ i', i' < m ∧ e i' = i) ∧ (∀ i, i < m → c i = counts (e i) ∧ p i = points (e i) ∧ sc i = scores (e i)) ∧ ∀ i, j ≤ i → c i = counts i ∧ p i = points i ∧ sc i = scores i)
    (fun _ y _ _ _ => nf - y.toNatClampNeg) ?_ _ _ _ _ _ ⟨k, k, id, Nat.le_refl _, Nat.le_refl _, hk, rfl, rfl, fun _ _ => rfl, fun i j h _ => h, fun i h => h, fun i h1 h2 => absurd h1 (by omega), fun i h1 h2 => absurd h1 (by omega), fun _ _ => ⟨rfl, rfl, rfl⟩, fun _ _ => ⟨rfl, rfl, rfl⟩⟩
  rintro x y c p sc ⟨m, j, e, hkm, hmj, hj, rfl, rfl, e1, e2, e3, e4, e5, e6, e7⟩ w hw
  unfold b_X3_dropBeaten_6
  refine ⟨fun hle => ?_, fun hlt => ?_⟩
  · have : nf ≤ j := (nI_leI (by omega) (by omega)).mp hle
    have : j = nf := by omega
    subst this
    exact h m e c p sc hkm hmj e1 e2 e3 e4 e5 e6
  · have hjn := nI_leN (by omega) (by omega) hlt
    have dec : nf - (nI j + 1).toNatClampNeg < nf - (nI j).toNatClampNeg := by
      rw [nI_1, cl_nI (by omega), cl_nI (by omega)]
      omega
    rw [cl_nI (by omega), (e7 j (Nat.le_refl _)).2.2, hs j hjn]
    refine ⟨vp_in_nI (by omega) (by decide), w_ing hsl (hq j hjn) (fun hd => ⟨fun z => absurd z (by decide), fun _ => ?_⟩) (fun hd => ⟨fun _ => ?_, fun z => absurd rfl z⟩)⟩
    · refine hw _ _ _ _ _ ⟨m, j + 1, e, hkm, by omega, by omega, rfl, nI_1 j, e1, e2, fun i hi => Nat.lt_succ_of_lt (e3 i hi), e4, fun i h1 h2 h3 => ?_, e6, fun i hi => e7 i (by omega)⟩ dec
      rcases Nat.lt_or_ge i j with z | z
      · exact e5 i h1 z h3
      · have : i = j := by omega
        subst this
        exact absurd hd h3
    · refine w_move (by omega) (by omega) (fun c' p' s' hm' ho' => ?_)
      have em : ∀ i, i ≠ m → (fun i => if i = m then j else e i) i = e i := fun i hi => if_neg hi
      have emm : (fun i => if i = m then j else e i) m = j := if_pos rfl
      refine hw _ _ _ _ _ ⟨m + 1, j + 1, fun i => if i = m then j else e i, by omega, by omega, by omega, nI_1 m, nI_1 j, fun i hi => ?_, fun i i' h1 h2 => ?_, fun i hi => ?_, fun i h1 h2 => ?_, fun i h1 h2 h3 => ?_, fun i hi => ?_, fun i hi => ?_⟩ dec
      · rw [em i (by omega)]
        exact e1 i hi
      · by_cases z : i' = m
        · subst z
          rw [emm, em i (by omega)]
          exact e3 i h1
        · rw [em i (by omega), em i' z]
          exact e2 i i' h1 (by omega)
      · by_cases z : i = m
        · subst z
          rw [emm]
          omega
        · rw [em i z]
          have := e3 i (by omega)
          omega
      · by_cases z : i = m
        · subst z
          rw [emm]
          exact ⟨by omega, hd⟩
        · rw [em i z]
          exact e4 i h1 (by omega)
      · by_cases z : i = j
        · exact ⟨m, by omega, by rw [emm, z]⟩
        · obtain ⟨i', hi', ei'⟩ := e5 i h1 (by omega) h3
          exact ⟨i', by omega, by rw [em i' (by omega)]; exact ei'⟩
      · by_cases z : i = m
        · subst z
          rw [emm]
          obtain ⟨a1, a2, a3⟩ := hm'
          obtain ⟨b1, b2, b3⟩ := e7 j (Nat.le_refl _)
          exact ⟨a1.trans b1, a2.trans b2, a3.trans b3⟩
        · rw [em i z]
          obtain ⟨a1, a2, a3⟩ := ho' i z
          obtain ⟨b1, b2, b3⟩ := e6 i (by omega)
          exact ⟨a1.trans b1, a2.trans b2, a3.trans b3⟩
      · obtain ⟨a1, a2, a3⟩ := ho' i (by omega)
        obtain ⟨b1, b2, b3⟩ := e7 i (by omega)
        exact ⟨a1.trans b1, a2.trans b2, a3.trans b3⟩
theorem w_insert {m k : Nat} (hm : m < 2000) (hk : k ≤ m) {counts points : Nat → Int32} {scores : Nat → Int64} {s : Int64} {pt : Int32} {post : (Nat → Int32) → (Nat → Int32) → (Nat → Int64) → Int32 → Prop}
    (h : ∀ (c p : Nat → Int32) (sc : Nat → Int64), (∀ i, i < k → c i = counts i ∧ p i = points i ∧ sc i = scores i) → (c k = 1 ∧ p k = pt ∧ sc k = s) → (∀ i, k < i → i < m + 1 → c i = counts (i - 1) ∧ p i = points (i - 1) ∧ sc i = scores (i - 1)) → post c p sc (nI (m + 1))) : wp_X3_insert counts points scores (nI m) (nI k) s pt post := by
  unfold wp_X3_insert
  refine ⟨fun _ => ?_, fun z => absurd ((nI_ltI (b := 2000) (by omega) (by omega)).mpr hm) z⟩
  rw [nI_1, pk_sub hk, cl_nI (by omega), cl_nI (by omega), cl_nI (by omega)]
  have a1 : ¬ nI k < 0 := nI_pos (by omega)
  have a2 : ¬ nI (k + 1) < 0 := nI_pos (by omega)
  have a3 : ¬ nI (m - k) < 0 := nI_pos (by omega)
  have a4 : vp_in (nI k) 2000 := vp_in_nI (by omega) (by decide)
  refine ⟨a1, a2, a3, by omega, by omega, a1, a2, a3, by omega, by omega, a1, a2, a3, by omega, by omega, a4, a4, a4, ?_⟩
  rw [nI_1]
  refine h _ _ _ (fun i hi => ?_) ⟨upd_s, upd_s, updL_s⟩ (fun i h1 h2 => ?_)
  · rw [upd_n (by omega), upd_n (by omega), updL_n (by omega), pk_cpy_out (by omega), pk_cpy_out (by omega), pk_cpy_out (by omega)]
    exact ⟨rfl, rfl, rfl⟩
  · rw [upd_n (by omega), upd_n (by omega), updL_n (by omega), pk_cpy_in (by omega) (by omega), pk_cpy_in (by omega) (by omega), pk_cpy_in (by omega) (by omega), show k + (i - (k + 1)) = i - 1 by omega]
    exact ⟨rfl, rfl, rfl⟩
/-- the class's arrays hold the front fp of the plans 0 .. np - 1 -/
def CF (np : Nat) (L : Nat → Nat → Nat) (PP : Nat → Int32) (nf : Nat) (fp : Nat → Nat) (counts points : Nat → Int32) (scores : Nat → Int64) : Prop := ∀ k, k < nf → counts k = nI (cnt L (P4 (L (fp k))) np) ∧ points k = PP (fp k) ∧ scores k = lN (P4 (L (fp k)))
theorem w_meet {np nf : Nat} {L : Nat → Nat → Nat} {fp : Nat → Nat} {PP counts points : Nat → Int32} {scores : Nat → Int64} (hnp : np < 2000) (hL : ∀ p, p ≤ np → ∀ a, a < 4 → L p a < 16384) (hF : FS np L nf fp) (hC : CF np L PP nf fp counts points scores) {post : (Nat → Int32) → (Nat → Int32) → (Nat → Int64) → Int32 → Prop}
    (h : ∀ (nf' : Nat) (fp' : Nat → Nat) (c p : Nat → Int32) (sc : Nat → Int64), FS (np + 1) L nf' fp' → CF (np + 1) L PP nf' fp' c p sc → post c p sc (nI nf')) : wp_X3_meet counts points scores (nI nf) (lN (P4 (L np))) (PP np) post := by
  have hle := FS_le hF
  have hq : ∀ k, k < nf → ∀ a, a < 4 → L (fp k) a < 16384 := fun k hk => hL _ (Nat.le_of_lt (hF.1 k hk))
  have hsl := hL np (Nat.le_refl _)
  unfold wp_X3_meet
  refine w_placeOf (q := fun k => L (fp k)) (by omega) hq (fun k hk => (hC k hk).2.2) hF.2.2.2.1 (P4_63 hsl) (fun k hk k1 k2 => ?_)
  -- with no equal score
  have rest : (∀ i, i < nf → P4 (L (fp i)) ≠ P4 (L np)) → wp_X3_isBeaten scores (lN (P4 (L np))) (nI k) (fun r_46 => (r_46 = 0 → wp_X3_dropBeaten counts points scores (nI nf) (lN (P4 (L np))) (nI k) (fun c1 p1 s1 z1 => wp_X3_insert c1 p1 s1 z1 (nI k) (lN (P4 (L np))) (PP np) (fun c2 p2 s2 z2 => post c2 p2 s2 z2))) ∧ (¬ r_46 = 0 → post counts points scores (nI nf))) := by
    intro hne
    refine w_isBeaten (q := fun k => L (fp k)) (by omega) (fun i hi => hq i (by omega)) (fun i hi => (hC i (by omega)).2.2) hsl (fun hb => ⟨fun z => absurd z (by decide), fun _ => ?_⟩) (fun hb => ⟨fun _ => ?_, fun z => absurd rfl z⟩)
    · obtain ⟨i, hi, hd⟩ := hb
      refine h nf fp counts points scores (FS_same hF ⟨i, by omega, hd⟩) (fun j hj => ?_)
      obtain ⟨b1, b2, b3⟩ := hC j hj
      refine ⟨?_, b2, b3⟩
      show counts j = nI (cnt L (P4 (L (fp j))) np + if P4 (L np) = P4 (L (fp j)) then 1 else 0)
      rw [if_neg (fun e => hne j hj e.symm)]
      exact b1
    · have hnd : ¬ ∃ i, i < nf ∧ dm (L (fp i)) (L np) := fun ⟨i, hi, hd⟩ => by
        rcases Nat.lt_or_ge i k with z | z
        · exact hb ⟨i, z, hd⟩
        · have l1 := dm_le hd
          have l2 := k2 i z hi
          exact hne i hi (Nat.le_antisymm l1 l2)
      refine w_dropBeaten (q := fun k => L (fp k)) (by omega) hk hq (fun i hi => (hC i hi).2.2) hsl (fun m e c p sc hkm hmn e1 e2 e3 e4 e5 e6 => ?_)
      refine w_insert (by omega) hkm (fun c' p' sc' f1 f2 f3 => ?_)
      have hFS := FS_new hL hF hnd hkm k1 k2 e1 e2 e3 e4 e5
      refine h (m + 1) (fpN np k fp e) c' p' sc' hFS (fun j hj => ?_)
      have cn : ∀ i, i < m → cnt L (P4 (L (fp (e i)))) (np + 1) = cnt L (P4 (L (fp (e i)))) np := fun i hi => by
        show cnt L _ np + (if P4 (L np) = P4 (L (fp (e i))) then 1 else 0) = _
        rw [if_neg (fun z => hne (e i) (e3 i hi) z.symm)]
        rfl
      rcases Nat.lt_trichotomy j k with z | z | z
      · have ef : fpN np k fp e j = fp (e j) := if_pos z
        obtain ⟨g1, g2, g3⟩ := f1 j z
        obtain ⟨i1, i2, i3⟩ := e6 j (by omega)
        obtain ⟨b1, b2, b3⟩ := hC (e j) (e3 j (by omega))
        rw [ef, cn j (by omega)]
        exact ⟨g1.trans (i1.trans b1), g2.trans (i2.trans b2), g3.trans (i3.trans b3)⟩
      · subst z
        have ef : fpN np j fp e j = np := by
          unfold fpN
          rw [if_neg (Nat.lt_irrefl j), if_pos rfl]
        have cz : cnt L (P4 (L np)) np = 0 := cnt_zero np (fun q hq' eq => by
          obtain ⟨i, hi, hd⟩ := hF.2.2.2.2 q hq'
          exact hnd ⟨i, hi, dm_tr hd (dm_of_eq (hL q (by omega)) hsl eq)⟩)
        rw [ef]
        refine ⟨?_, f2.2.1, f2.2.2⟩
        show c' j = nI (cnt L (P4 (L np)) np + if P4 (L np) = P4 (L np) then 1 else 0)
        rw [if_pos rfl, cz]
        exact f2.1
      · have ef : fpN np k fp e j = fp (e (j - 1)) := by
          unfold fpN
          rw [if_neg (by omega), if_neg (by omega)]
        obtain ⟨g1, g2, g3⟩ := f3 j z hj
        obtain ⟨i1, i2, i3⟩ := e6 (j - 1) (by omega)
        obtain ⟨b1, b2, b3⟩ := hC (e (j - 1)) (e3 (j - 1) (by omega))
        rw [ef, cn (j - 1) (by omega)]
        exact ⟨g1.trans (i1.trans b1), g2.trans (i2.trans b2), g3.trans (i3.trans b3)⟩
  unfold jn0
  refine ⟨fun hle2 => ?_, fun hlt => ?_⟩
  · have hkn : nf ≤ k := (nI_leI (by omega) (by omega)).mp hle2
    refine rest (fun i hi e => ?_)
    have := k1 i (by omega)
    omega
  · have hkn := nI_leN (by omega) (by omega) hlt
    have hin : vp_in (nI k) 2000 := vp_in_nI (by omega) (by decide)
    rw [cl_nI (by omega), (hC k hkn).2.2]
    refine ⟨hin, fun heq => ⟨hin, hin, ?_⟩, fun hneq => rest (fun i hi e => ?_)⟩
    · have eK := (pk_lEQ (P4_63 (hq k hkn)) (P4_63 hsl)).mp heq
      refine h nf fp _ _ _ (FS_same hF ⟨k, hkn, dm_of_eq (hq k hkn) hsl eK⟩) (fun j hj => ?_)
      obtain ⟨b1, b2, b3⟩ := hC j hj
      refine ⟨?_, b2, b3⟩
      show upd counts k (counts k + 1) j = nI (cnt L (P4 (L (fp j))) np + if P4 (L np) = P4 (L (fp j)) then 1 else 0)
      by_cases z : j = k
      · subst z
        rw [upd_s, if_pos eK.symm, b1, nI_1]
      · rw [upd_n z, if_neg (fun e => ?_)]
        · exact b1
        · have e2 : P4 (L (fp k)) = P4 (L (fp j)) := eK.trans e
          rcases Nat.lt_or_ge j k with y | y
          · have := hF.2.2.2.1 j k y hkn
            omega
          · have := hF.2.2.2.1 k j (by omega) hj
            omega
    · rcases Nat.lt_trichotomy i k with z | z | z
      · have := k1 i z
        omega
      · subst z
        exact hneq (by rw [e])
      · have l1 := k2 k (Nat.le_refl _) hkn
        have l2 := hF.2.2.2.1 k i z hi
        omega

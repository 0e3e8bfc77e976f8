/-! ===== the model's front, from the start ===== -/
/-- the lanes of plan p -/
def pL (na : Nat) (PS : Nat → Int32) (p : Nat) : Nat → Nat := lnA na (fun a => PS (4 * p + a))
def okPS (na np : Nat) (PS : Nat → Int32) : Prop := ∀ p, p < np → okS na (fun a => PS (4 * p + a))
theorem pL_lt {na np : Nat} {PS : Nat → Int32} (h : okPS na np PS) {p : Nat} (hp : p < np) : ∀ a, a < 4 → pL na PS p a < 16384 := lnA_lt (h p hp)
theorem pL_in {na : Nat} {PS : Nat → Int32} {p a : Nat} (h : a < na) : pL na PS p a = ln (PS (4 * p + a)) := lnA_in h
theorem pL_out {na : Nat} {PS : Nat → Int32} {p a : Nat} (h : ¬ a < na) : pL na PS p a = 0 := lnA_out h
theorem pL_le {na np : Nat} {PS : Nat → Int32} (h : okPS na np PS) {p q : Nat} (hp : p < np) (hq : q < np) : dm (pL na PS p) (pL na PS q) ↔ ∀ a, a < na → a < 4 → PS (4 * p + a) ≤ PS (4 * q + a) := by
  constructor
  · intro hd a ha h4
    have := hd a h4
    rw [pL_in ha, pL_in ha] at this
    exact (ln_le (h p hp a ha) (h q hq a ha)).mp this
  · intro hd a h4
    by_cases ha : a < na
    · rw [pL_in ha, pL_in ha]
      exact (ln_le (h p hp a ha) (h q hq a ha)).mpr (hd a ha h4)
    · rw [pL_out ha, pL_out ha]
      exact Nat.le_refl _
theorem pL_eq {na np : Nat} {PS : Nat → Int32} (hna : na ≤ 4) (h : okPS na np PS) {p q : Nat} (hp : p < np) (hq : q < np) : P4 (pL na PS p) = P4 (pL na PS q) ↔ ∀ a, a < na → PS (4 * p + a) = PS (4 * q + a) := by
  constructor
  · intro e a ha
    have e1 := P4_inj (fun a h4 => Nat.lt_trans (pL_lt h hp a h4) (by decide)) (fun a h4 => Nat.lt_trans (pL_lt h hq a h4) (by decide)) e a (by omega)
    rw [pL_in ha, pL_in ha] at e1
    exact (ln_eq (h p hp a ha) (h q hq a ha)).mp e1
  · intro e
    refine P4_congr (fun a _ => ?_)
    by_cases ha : a < na
    · rw [pL_in ha, pL_in ha, e a ha]
    · rw [pL_out ha, pL_out ha]
theorem ix4 {p a : Nat} : (4 : Int32) * nI p + nI a = nI (4 * p + a) := by
  rw [show (4 : Int32) = nI 4 from rfl, pk_mul, nI_add]
theorem w_of {PS : Nat → Int32} {p a : Nat} (hp : p < 2000) (ha : a < 4) {post : Int32 → Prop} (h : post (PS (4 * p + a))) : wp_X7_of PS (nI p) (nI a) post := by
  unfold wp_X7_of
  rw [ix4, cl_nI (by omega)]
  exact ⟨vp_in_nI (by omega) (by decide), h⟩
theorem w_alike {na np : Nat} {PS : Nat → Int32} (hna : na ≤ 4) (hnp : np ≤ 2000) (hok : okPS na np PS) {p q : Nat} (hp : p < np) (hq : q < np) {post : Int32 → Prop} (h : ∀ v, fl v (P4 (pL na PS p) = P4 (pL na PS q)) → post v) : wp_X7_alike (nI na) PS (nI p) (nI q) post := by
  unfold wp_X7_alike
  refine Lq2_inv (fun v i => ∃ j : Nat, j ≤ na ∧ i = nI j ∧ fl v (∀ a, a < j → PS (4 * p + a) = PS (4 * q + a))) (fun _ i => na - i.toNatClampNeg) ?_ _ _ ⟨0, Nat.zero_le _, rfl, fl_1 (fun c h => absurd h (Nat.not_lt_zero _))⟩
  rintro v i ⟨j, hj, rfl, hv⟩ w hw
  unfold b_X7_alike_5
  refine ⟨fun hle => ?_, fun hlt => ?_⟩
  · have : na ≤ j := (nI_leI (by omega) (by omega)).mp hle
    have : j = na := by omega
    subst this
    exact ⟨fl_bz hv, h v (fl_iff hv (pL_eq hna hok hp hq).symm)⟩
  · have hjn := nI_leN (by omega) (by omega) hlt
    have dec : na - (nI j + 1).toNatClampNeg < na - (nI j).toNatClampNeg := by
      rw [nI_1, cl_nI (by omega), cl_nI (by omega)]
      omega
    refine ⟨fun z => hw _ _ ⟨j + 1, by omega, nI_1 j, fl_0 (fun y => fl_no hv z (fun a ha => y a (by omega)))⟩ dec, fun z => ?_⟩
    obtain ⟨y, -⟩ := fl_yes hv z
    refine w_of (by omega) (by omega) (w_of (by omega) (by omega) ⟨fun e => ?_, fun e => ?_⟩)
    · exact hw _ _ ⟨j + 1, by omega, nI_1 j, fl_1 (all_succ.mpr ⟨y, e⟩)⟩ dec
    · exact hw _ _ ⟨j + 1, by omega, nI_1 j, fl_0 (fun x => e (x j (by omega)))⟩ dec
/-- q beats p -/
def bt4 (L : Nat → Nat → Nat) (q p : Nat) : Prop := dm (L q) (L p) ∧ P4 (L q) ≠ P4 (L p)
theorem w_beats {na np : Nat} {PS : Nat → Int32} (hna : na ≤ 4) (hnp : np ≤ 2000) (hok : okPS na np PS) {p q : Nat} (hp : p < np) (hq : q < np) {post : Int32 → Prop} (h : ∀ v, fl v (bt4 (pL na PS) q p) → post v) : wp_X7_beats (nI na) PS (nI q) (nI p) post := by
  unfold wp_X7_beats
  refine Lq2_inv (fun v i => ∃ j : Nat, j ≤ na ∧ i = nI j ∧ (∀ a, a < j → PS (4 * q + a) ≤ PS (4 * p + a)) ∧ fl v (¬ ∀ a, a < j → PS (4 * q + a) = PS (4 * p + a))) (fun _ i => na - i.toNatClampNeg) ?_ _ _ ⟨0, Nat.zero_le _, rfl, fun c h => absurd h (Nat.not_lt_zero _), fl_0 (fun z => z (fun c h => absurd h (Nat.not_lt_zero _)))⟩
  rintro v i ⟨j, hj, rfl, hle4, hv⟩ w hw
  unfold b_X7_beats_5
  refine ⟨fun hle => ?_, fun hlt => ?_⟩
  · have : na ≤ j := (nI_leI (by omega) (by omega)).mp hle
    have : j = na := by omega
    subst this
    refine ⟨fl_bz hv, h v (fl_iff hv ?_)⟩
    have e1 := pL_eq hna hok hq hp
    have e2 := (pL_le hok hq hp).mpr (fun a ha _ => hle4 a ha)
    exact ⟨fun z => ⟨e2, fun y => z (e1.mp y)⟩, fun z y => z.2 (e1.mpr y)⟩
  · have hjn := nI_leN (by omega) (by omega) hlt
    have dec : na - (nI j + 1).toNatClampNeg < na - (nI j).toNatClampNeg := by
      rw [nI_1, cl_nI (by omega), cl_nI (by omega)]
      omega
    refine w_of (by omega) (by omega) (w_of (by omega) (by omega) ⟨fun e => ⟨fun z => ?_, fun z => ?_⟩, fun e => ?_⟩)
    · have y := fl_no hv z
      have y2 : ∀ a, a < j → PS (4 * q + a) = PS (4 * p + a) := Classical.byContradiction y
      refine w_of (by omega) (by omega) (w_of (by omega) (by omega) ⟨fun e2 => ?_, fun e2 => ?_⟩)
      · refine hw _ _ ⟨j + 1, by omega, nI_1 j, all_succ.mpr ⟨hle4, e⟩, fl_0 (fun x => x (all_succ.mpr ⟨y2, ?_⟩))⟩ dec
        rw [← Int32.toInt_inj]
        rw [Int32.le_iff_toInt_le] at e e2
        omega
      · refine hw _ _ ⟨j + 1, by omega, nI_1 j, all_succ.mpr ⟨hle4, e⟩, fl_1 (fun x => e2 ?_)⟩ dec
        rw [x j (by omega)]
        exact Int32.le_refl _
    · obtain ⟨y, -⟩ := fl_yes hv z
      exact hw _ _ ⟨j + 1, by omega, nI_1 j, all_succ.mpr ⟨hle4, e⟩, fl_1 (fun x => y (fun a ha => x a (by omega)))⟩ dec
    · refine h 0 (fl_0 (fun z => e ?_))
      exact (pL_le hok hq hp).mp z.1 j hjn (by omega)
theorem lex4 {q r : Nat → Nat} (hq : ∀ a, a < 4 → q a < 16384) (hr : ∀ a, a < 4 → r a < 16384) {j : Nat} (hj : j < 4) (he : ∀ a, a < j → q a = r a) (hl : q j < r j) : P4 q < P4 r := by
  have q0 := hq 0 (by omega)
  have q1 := hq 1 (by omega)
  have q2 := hq 2 (by omega)
  have q3 := hq 3 (by omega)
  have r0 := hr 0 (by omega)
  have r1 := hr 1 (by omega)
  have r2 := hr 2 (by omega)
  have r3 := hr 3 (by omega)
  unfold P4
  have hm : j = 0 ∨ j = 1 ∨ j = 2 ∨ j = 3 := by omega
  rcases hm with e | e | e | e <;> subst e
  · omega
  · have := he 0 (by omega)
    omega
  · have := he 0 (by omega)
    have := he 1 (by omega)
    omega
  · have := he 0 (by omega)
    have := he 1 (by omega)
    have := he 2 (by omega)
    omega
theorem w_before {na np : Nat} {PS : Nat → Int32} (hna : na ≤ 4) (hnp : np ≤ 2000) (hok : okPS na np PS) {p q : Nat} (hp : p < np) (hq : q < np) {post : Int32 → Prop} (h1 : P4 (pL na PS p) < P4 (pL na PS q) → post 1) (h0 : ¬ P4 (pL na PS p) < P4 (pL na PS q) → post 0) : wp_X7_before (nI na) PS (nI p) (nI q) post := by
  unfold wp_X7_before
  refine Lq1_inv (fun i => ∃ j : Nat, j ≤ na ∧ i = nI j ∧ ∀ a, a < j → PS (4 * p + a) = PS (4 * q + a)) (fun i => na - i.toNatClampNeg) ?_ _ ⟨0, Nat.zero_le _, rfl, fun c h => absurd h (Nat.not_lt_zero _)⟩
  rintro i ⟨j, hj, rfl, he⟩ w hw
  unfold b_X7_before_2
  refine ⟨fun hle => ?_, fun hlt => ?_⟩
  · have : na ≤ j := (nI_leI (by omega) (by omega)).mp hle
    have : j = na := by omega
    subst this
    refine h0 (fun z => ?_)
    rw [(pL_eq hna hok hp hq).mpr he] at z
    exact Nat.lt_irrefl _ z
  · have hjn := nI_leN (by omega) (by omega) hlt
    have lt1 := pL_lt hok hp
    have lt2 := pL_lt hok hq
    have hpre : ∀ a, a < j → pL na PS p a = pL na PS q a := fun a ha => by rw [pL_in (by omega), pL_in (by omega), he a ha]
    refine w_of (by omega) (by omega) (w_of (by omega) (by omega) ⟨fun e => ?_, fun e => w_of (by omega) (by omega) (w_of (by omega) (by omega) ⟨fun e2 => ?_, fun e2 => ?_⟩)⟩)
    · refine hw _ ⟨j + 1, by omega, nI_1 j, all_succ.mpr ⟨he, e⟩⟩ ?_
      rw [nI_1, cl_nI (by omega), cl_nI (by omega)]
      omega
    · refine h0 (Nat.not_lt.mpr (Nat.le_of_lt (lex4 lt2 lt1 (show j < 4 by omega) (fun a ha => (hpre a ha).symm) ?_)))
      have l1 : ln (PS (4 * q + j)) ≤ ln (PS (4 * p + j)) := (ln_le (hok q hq j hjn) (hok p hp j hjn)).mpr e2
      have l2 : ¬ ln (PS (4 * q + j)) = ln (PS (4 * p + j)) := fun z => e ((ln_eq (hok q hq j hjn) (hok p hp j hjn)).mp z).symm
      rw [pL_in hjn, pL_in hjn]
      omega
    · refine h1 (lex4 lt1 lt2 (show j < 4 by omega) hpre ?_)
      have l1 : ¬ ln (PS (4 * q + j)) ≤ ln (PS (4 * p + j)) := fun z => e2 ((ln_le (hok q hq j hjn) (hok p hp j hjn)).mp z)
      rw [pL_in hjn, pL_in hjn]
      omega
theorem w_lay {na np nf p t : Nat} {PS FP FT : Nat → Int32} {fp : Nat → Nat} (hna : na ≤ 4) (hnp : np ≤ 2000) (hok : okPS na np PS) (hp : p < np) (hnf : nf < 2000) (hfp : ∀ k, k < nf → fp k < np ∧ FP k = nI (fp k)) {post : Int32 → (Nat → Int32) → (Nat → Int32) → Prop}
    (h : ∀ (k : Nat) (FP' FT' : Nat → Int32), k ≤ nf → (∀ i, k ≤ i → i < nf → P4 (pL na PS p) < P4 (pL na PS (fp i))) → (0 < k → ¬ P4 (pL na PS p) < P4 (pL na PS (fp (k - 1)))) → (∀ i, i < k → FP' i = FP i ∧ FT' i = FT i) → (FP' k = nI p ∧ FT' k = nI t) → (∀ i, k < i → i < nf + 1 → FP' i = FP (i - 1) ∧ FT' i = FT (i - 1)) → post (nI (nf + 1)) FP' FT') : wp_X7_lay (nI na) (nI nf) FP FT PS (nI p) (nI t) post := by
  unfold wp_X7_lay
  refine Lq3_inv (fun x F T => ∃ k : Nat, k ≤ nf ∧ x = nI k ∧ (∀ i, k ≤ i → i < nf → P4 (pL na PS p) < P4 (pL na PS (fp i))) ∧ (∀ i, i < k → F i = FP i ∧ T i = FT i) ∧ ∀ i, k < i → i < nf + 1 → F i = FP (i - 1) ∧ T i = FT (i - 1)) (fun x _ _ => x.toNatClampNeg) ?_ _ _ _ ⟨nf, Nat.le_refl _, rfl, fun i h1 h2 => absurd h1 (by omega), fun _ _ => ⟨rfl, rfl⟩, fun i h1 h2 => absurd h1 (by omega)⟩
  rintro x F T ⟨k, hk, rfl, k1, k2, k3⟩ w hw
  have fin : (0 < k → ¬ P4 (pL na PS p) < P4 (pL na PS (fp (k - 1)))) → vp_in (nI k) 2000 ∧ vp_in (nI k) 2000 ∧ post (nI nf + (1 : Int32)) (upd F (nI k).toNatClampNeg (nI p)) (upd T (nI k).toNatClampNeg (nI t)) := fun hk0 => by
    have hin : vp_in (nI k) 2000 := vp_in_nI (by omega) (by decide)
    rw [cl_nI (by omega), nI_1]
    refine ⟨hin, hin, h k _ _ hk k1 hk0 (fun i hi => ?_) ⟨upd_s, upd_s⟩ (fun i h1 h2 => ?_)⟩
    · rw [upd_n (by omega), upd_n (by omega)]
      exact k2 i hi
    · rw [upd_n (by omega), upd_n (by omega)]
      exact k3 i h1 h2
  unfold b_X7_lay_5
  refine ⟨fun hle => ?_, fun hlt => ?_⟩
  · have : k ≤ 0 := (nI_leI (b := 0) (by omega) (by omega)).mp hle
    exact fin (fun z => absurd z (by omega))
  · have hk0 : 0 < k := by
      rcases Nat.lt_or_ge 0 k with z | z
      · exact z
      · have : k = 0 := by omega
        subst this
        exact absurd (Int32.le_refl _) hlt
    have hin : vp_in (nI (k - 1)) 2000 := vp_in_nI (by omega) (by decide)
    have hin2 : vp_in (nI k) 2000 := vp_in_nI (by omega) (by decide)
    rw [nI_sub1 hk0, cl_nI (by omega), (k2 (k - 1) (by omega)).1, (hfp (k - 1) (by omega)).2]
    refine ⟨hin, w_before hna hnp hok hp (hfp (k - 1) (by omega)).1 (fun hb => ⟨fun z => absurd z (by decide), fun _ => ?_⟩) (fun hb => ⟨fun _ => fin (fun _ => hb), fun z => absurd rfl z⟩)⟩
    rw [cl_nI (by omega)]
    refine ⟨hin, hin2, hin, hin2, hw _ _ _ ⟨k - 1, by omega, by rw [← nI_sub1 hk0]; exact (Int32.sub_eq_add_neg _ _).symm, fun i h1 h2 => ?_, fun i hi => ?_, fun i h1 h2 => ?_⟩ ?_⟩
    · rcases Nat.lt_or_ge i k with z | z
      · have : i = k - 1 := by omega
        subst this
        exact hb
      · exact k1 i z h2
    · rw [upd_n (by omega), upd_n (by omega)]
      exact k2 i (by omega)
    · by_cases z : i = k
      · subst z
        rw [upd_s, upd_s, (hfp (i - 1) (by omega)).2]
        exact ⟨rfl, (k2 (i - 1) (by omega)).2⟩
      · rw [upd_n z, upd_n z]
        exact k3 i (by omega) h2
    · have e : nI k + (-1 : Int32) = nI (k - 1) := by
        rw [← nI_sub1 hk0]
        exact (Int32.sub_eq_add_neg _ _).symm
      rw [e, cl_nI (by omega), cl_nI (by omega)]
      omega
/-- plan p stands for its score on the front of the plans 0 .. np - 1 -/
def GP (np : Nat) (L : Nat → Nat → Nat) (p : Nat) : Prop := (∀ q, q < np → ¬ bt4 L q p) ∧ ∀ q, q < p → P4 (L q) ≠ P4 (L p)
set_option maxRecDepth 100000 in
theorem GP_FS {np nf : Nat} {L : Nat → Nat → Nat} {fp : Nat → Nat} (hnp : np ≤ 2000) (hL : ∀ p, p < np → ∀ a, a < 4 → L p a < 16384) (h1 : ∀ k, k < nf → fp k < np ∧ GP np L (fp k)) (h2 : ∀ i j, i < j → j < nf → P4 (L (fp i)) < P4 (L (fp j))) (h3 : ∀ p, p < np → GP np L p → ∃ k, k < nf ∧ fp k = p) : FS np L nf fp := by
  refine ⟨fun k hk => (h1 k hk).1, fun k hk => (h1 k hk).2.2, fun k hk q hq hd => ?_, h2, ?_⟩
  · exact Classical.byContradiction (fun z => (h1 k hk).2.1 q hq ⟨hd, z⟩)
  · have key : ∀ (n p : Nat), P4 (L p) * 2001 + p ≤ n → p < np → ∃ k, k < nf ∧ dm (L (fp k)) (L p) := by
      intro n
      induction n with
      | zero =>
        intro p hn hp
        by_cases hg : GP np L p
        · obtain ⟨k, hk, e⟩ := h3 p hp hg
          exact ⟨k, hk, e ▸ dm_rf _⟩
        · exfalso
          refine hg ⟨fun q hq hb => ?_, fun q hq => absurd hq (by omega)⟩
          have l1 := dm_le hb.1
          exact hb.2 (by omega)
      | succ n ih =>
        intro p hn hp
        by_cases hg : GP np L p
        · obtain ⟨k, hk, e⟩ := h3 p hp hg
          exact ⟨k, hk, e ▸ dm_rf _⟩
        · by_cases hb : ∃ q, q < np ∧ bt4 L q p
          · obtain ⟨q, hq, hd, hne⟩ := hb
            have l1 : P4 (L q) < P4 (L p) := Nat.lt_of_le_of_ne (dm_le hd) hne
            have l3 : P4 (L q) * 2001 + q ≤ n := by
              generalize P4 (L q) = u at l1 ⊢
              generalize P4 (L p) = v at l1 hn
              omega
            obtain ⟨k, hk, hk2⟩ := ih q l3 hq
            exact ⟨k, hk, dm_tr hk2 hd⟩
          · have hf : ∃ q, q < p ∧ P4 (L q) = P4 (L p) := Classical.byContradiction (fun z => hg ⟨fun q hq hq2 => hb ⟨q, hq, hq2⟩, fun q hq e => z ⟨q, hq, e⟩⟩)
            obtain ⟨q, hq, e⟩ := hf
            have l3 : P4 (L q) * 2001 + q ≤ n := by
              rw [e]
              generalize P4 (L p) = v at hn ⊢
              omega
            obtain ⟨k, hk, hk2⟩ := ih q l3 (by omega)
            exact ⟨k, hk, dm_tr hk2 (dm_of_eq (hL q (by omega)) (hL p hp) e)⟩
    exact fun p hp => key _ p (Nat.le_refl _) hp
/-- the model's arrays hold the front fp -/
def MF (na np : Nat) (PS : Nat → Int32) (nf : Nat) (fp : Nat → Nat) (FP FT : Nat → Int32) : Prop := ∀ k, k < nf → FP k = nI (fp k) ∧ FT k = nI (cnt (pL na PS) (P4 (pL na PS (fp k))) np)
theorem w_findFront {na np : Nat} {PS FP FT : Nat → Int32} {fr : Int32} (hna : na ≤ 4) (hnp : np ≤ 2000) (hok : okPS na np PS) {post : Int32 → (Nat → Int32) → (Nat → Int32) → Prop}
    (h : ∀ (nf : Nat) (fp : Nat → Nat) (FP' FT' : Nat → Int32), FS np (pL na PS) nf fp → MF na np PS nf fp FP' FT' → post (nI nf) FP' FT') : wp_X7_findFront (nI na) fr FP FT PS (nI np) post := by
  unfold wp_X7_findFront
  refine Lq4_inv (fun x y F T => ∃ (p nf : Nat) (fp : Nat → Nat), p ≤ np ∧ nf ≤ p ∧ x = nI p ∧ y = nI nf ∧ (∀ k, k < nf → fp k < p ∧ GP np (pL na PS) (fp k)) ∧ (∀ i j, i < j → j < nf → P4 (pL na PS (fp i)) < P4 (pL na PS (fp j))) ∧ (∀ q, q < p → GP np (pL na PS) q → ∃ k, k < nf ∧ fp k = q) ∧ MF na np PS nf fp F T) (fun x _ _ _ => np - x.toNatClampNeg) ?_ _ _ _ _
    ⟨0, 0, id, Nat.zero_le _, Nat.le_refl _, rfl, rfl, fun k hk => absurd hk (Nat.not_lt_zero _), fun i j _ hj => absurd hj (Nat.not_lt_zero _), fun q hq => absurd hq (Nat.not_lt_zero _), fun k hk => absurd hk (Nat.not_lt_zero _)⟩
  rintro x y F T ⟨p, nf, fp, hp, hnfp, rfl, rfl, g1, g2, g3, g4⟩ w hw
  unfold b_X7_findFront_7
  refine ⟨fun hle => ?_, fun hlt => ?_⟩
  · have : np ≤ p := (nI_leI (by omega) (by omega)).mp hle
    have : p = np := by omega
    subst this
    exact h nf fp F T (GP_FS hnp (fun q hq => pL_lt hok hq) g1 g2 g3) g4
  · have hpn := nI_leN (by omega) (by omega) hlt
    have decO : np - (nI p + 1).toNatClampNeg < np - (nI p).toNatClampNeg := by
      rw [nI_1, cl_nI (by omega), cl_nI (by omega)]
      omega
    refine Lq3_inv (fun v t i => ∃ j : Nat, j ≤ np ∧ i = nI j ∧ ((v = 1 ∧ t = nI (cnt (pL na PS) (P4 (pL na PS p)) j) ∧ ∀ q, q < j → ¬ bt4 (pL na PS) q p ∧ (q < p → P4 (pL na PS q) ≠ P4 (pL na PS p))) ∨ (v = 0 ∧ ¬ GP np (pL na PS) p))) (fun _ _ i => np - i.toNatClampNeg) ?_ _ _ _ ⟨0, Nat.zero_le _, rfl, Or.inl ⟨rfl, rfl, fun q hq => absurd hq (Nat.not_lt_zero _)⟩⟩
    rintro v t i ⟨j, hj, rfl, hv⟩ w2 hw2
    -- the plan is not good
    have bad : ¬ GP np (pL na PS) p → w (nI p + 1) (nI nf) F T := fun hb => hw _ _ _ _ ⟨p + 1, nf, fp, by omega, by omega, nI_1 p, rfl, fun k hk => ⟨Nat.lt_succ_of_lt (g1 k hk).1, (g1 k hk).2⟩, g2, fun q hq hgq => by
      rcases Nat.lt_or_ge q p with z | z
      · exact g3 q z hgq
      · have : q = p := by omega
        subst this
        exact absurd hgq hb, g4⟩ decO
    unfold b_X7_findFront_22
    refine ⟨fun hle => ?_, fun hlt2 => ?_⟩
    · have : np ≤ j := (nI_leI (by omega) (by omega)).mp hle
      have : j = np := by omega
      subst this
      rcases hv with ⟨rfl, rfl, hg⟩ | ⟨rfl, hb⟩
      · have hG : GP j (pL na PS) p := ⟨fun q hq => (hg q hq).1, fun q hq => (hg q (by omega)).2 hq⟩
        refine ⟨fun z => absurd z (by decide), fun _ => ?_⟩
        refine w_lay (t := cnt (pL na PS) (P4 (pL na PS p)) j) hna hnp hok hpn (by omega) (fun k hk => ⟨by have := (g1 k hk).1; omega, (g4 k hk).1⟩) (fun k FP' FT' hk k1 k2 k3 k4 k5 => ?_)
        have lo : ∀ i, i < k → fpN p k fp id i = fp i := fun i hi => if_pos hi
        have mid : fpN p k fp id k = p := by
          unfold fpN
          rw [if_neg (Nat.lt_irrefl k), if_pos rfl]
        have up : ∀ i, k < i → fpN p k fp id i = fp (i - 1) := fun i hi => by
          unfold fpN
          rw [if_neg (by omega), if_neg (by omega)]
          rfl
        have less : ∀ i, i < k → P4 (pL na PS (fp i)) < P4 (pL na PS p) := fun i hi => by
          have a1 := k2 (by omega)
          have a2 : P4 (pL na PS (fp (k - 1))) ≠ P4 (pL na PS p) := hG.2 _ (g1 (k - 1) (by omega)).1
          rcases Nat.lt_or_ge i (k - 1) with z | z
          · have := g2 i (k - 1) z (by omega)
            omega
          · have : i = k - 1 := by omega
            subst this
            omega
        refine hw _ _ _ _ ⟨p + 1, nf + 1, fpN p k fp id, by omega, by omega, nI_1 p, rfl, fun i hi => ?_, fun i i' h1 h2 => ?_, fun q hq hgq => ?_, fun i hi => ?_⟩ decO
        · rcases Nat.lt_trichotomy i k with z | z | z
          · rw [lo i z]
            exact ⟨Nat.lt_succ_of_lt (g1 i (by omega)).1, (g1 i (by omega)).2⟩
          · subst z
            rw [mid]
            exact ⟨Nat.lt_succ_self _, hG⟩
          · rw [up i z]
            exact ⟨Nat.lt_succ_of_lt (g1 (i - 1) (by omega)).1, (g1 (i - 1) (by omega)).2⟩
        · rcases Nat.lt_trichotomy i k with z | z | z
          · rw [lo i z]
            rcases Nat.lt_trichotomy i' k with y | y | y
            · rw [lo i' y]
              exact g2 i i' h1 (by omega)
            · subst y
              rw [mid]
              exact less i z
            · rw [up i' y]
              exact Nat.lt_trans (less i z) (k1 (i' - 1) (by omega) (by omega))
          · subst z
            rw [mid, up i' h1]
            exact k1 (i' - 1) (by omega) (by omega)
          · rw [up i z, up i' (by omega)]
            exact g2 (i - 1) (i' - 1) (by omega) (by omega)
        · rcases Nat.lt_or_ge q p with z | z
          · obtain ⟨i, hi, e⟩ := g3 q z hgq
            rcases Nat.lt_or_ge i k with y | y
            · exact ⟨i, by omega, by rw [lo i y]; exact e⟩
            · exact ⟨i + 1, by omega, by rw [up (i + 1) (by omega), Nat.add_sub_cancel]; exact e⟩
          · have : q = p := by omega
            subst this
            exact ⟨k, by omega, mid⟩
        · rcases Nat.lt_trichotomy i k with z | z | z
          · rw [lo i z, (k3 i z).1, (k3 i z).2]
            exact g4 i (by omega)
          · subst z
            rw [mid]
            exact k4
          · rw [up i z, (k5 i z hi).1, (k5 i z hi).2]
            exact g4 (i - 1) (by omega)
      · exact ⟨fun _ => bad hb, fun z => absurd rfl z⟩
    · have hjn := nI_leN (by omega) (by omega) hlt2
      have dec : np - (nI j + 1).toNatClampNeg < np - (nI j).toNatClampNeg := by
        rw [nI_1, cl_nI (by omega), cl_nI (by omega)]
        omega
      rcases hv with ⟨rfl, rfl, hg⟩ | ⟨rfl, hb⟩
      · refine ⟨fun z => absurd z (by decide), fun _ => ?_⟩
        refine w_alike hna hnp hok hjn hpn (fun r1 f1 => w_beats hna hnp hok hpn hjn (fun r2 f2 => ?_))
        unfold jn1
        have cyes : P4 (pL na PS j) = P4 (pL na PS p) → nI (cnt (pL na PS) (P4 (pL na PS p)) j) + (1 : Int32) = nI (cnt (pL na PS) (P4 (pL na PS p)) (j + 1)) := fun e => by
          rw [nI_1]
          show _ = nI (_ + if P4 (pL na PS j) = P4 (pL na PS p) then 1 else 0)
          rw [if_pos e]
        have cno : ¬ P4 (pL na PS j) = P4 (pL na PS p) → nI (cnt (pL na PS) (P4 (pL na PS p)) j) + (0 : Int32) = nI (cnt (pL na PS) (P4 (pL na PS p)) (j + 1)) := fun e => by
          rw [Int32.add_zero]
          show _ = nI (_ + if P4 (pL na PS j) = P4 (pL na PS p) then 1 else 0)
          rw [if_neg e]
          rfl
        -- going on, still good
        have good : ¬ bt4 (pL na PS) j p → (j < p → P4 (pL na PS j) ≠ P4 (pL na PS p)) → (r1 = 0 → w2 1 (nI (cnt (pL na PS) (P4 (pL na PS p)) j) + (0 : Int32)) (nI j + (1 : Int32))) ∧ (¬ r1 = 0 → w2 1 (nI (cnt (pL na PS) (P4 (pL na PS p)) j) + (1 : Int32)) (nI j + (1 : Int32))) := fun n1 n2 => by
          refine ⟨fun z => ?_, fun z => ?_⟩
          · exact hw2 _ _ _ ⟨j + 1, by omega, nI_1 j, Or.inl ⟨rfl, cno (fl_no f1 z), all_succ.mpr ⟨hg, n1, n2⟩⟩⟩ dec
          · exact hw2 _ _ _ ⟨j + 1, by omega, nI_1 j, Or.inl ⟨rfl, cyes (fl_yes f1 z).1, all_succ.mpr ⟨hg, n1, n2⟩⟩⟩ dec
        have gone : ¬ GP np (pL na PS) p → (r1 = 0 → w2 0 (nI (cnt (pL na PS) (P4 (pL na PS p)) j) + (0 : Int32)) (nI j + (1 : Int32))) ∧ (¬ r1 = 0 → w2 0 (nI (cnt (pL na PS) (P4 (pL na PS p)) j) + (1 : Int32)) (nI j + (1 : Int32))) := fun n1 =>
          ⟨fun _ => hw2 _ _ _ ⟨j + 1, by omega, nI_1 j, Or.inr ⟨rfl, n1⟩⟩ dec, fun _ => hw2 _ _ _ ⟨j + 1, by omega, nI_1 j, Or.inr ⟨rfl, n1⟩⟩ dec⟩
        refine ⟨fun z2 => ⟨fun z1 => ?_, fun z1 => ⟨fun y => ?_, fun y => ?_⟩⟩, fun z2 => ?_⟩
        · exact good (fl_no f2 z2) (fun _ => fl_no f1 z1)
        · exact gone (fun g => g.2 j ((nI_ltI (by omega) (by omega)).mp y) (fl_yes f1 z1).1)
        · exact good (fl_no f2 z2) (fun z => absurd ((nI_ltI (by omega) (by omega)).mpr z) y)
        · exact gone (fun g => g.1 j hjn (fl_yes f2 z2).1)
      · exact ⟨fun _ => ⟨fun _ => bad hb, fun z => absurd rfl z⟩, fun z => absurd rfl z⟩

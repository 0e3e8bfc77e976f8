/-! ===== questions to the front: v k a is aim a of score k ===== -/
def FV (na nf : Nat) (v : Nat → Nat → Int32) (scores : Nat → Int64) (FP PS : Nat → Int32) : Prop := nf ≤ 2000 ∧ na ≤ 4 ∧ ∀ k, k < nf → okS na (v k) ∧ scores k = lN (P4 (lnA na (v k))) ∧ ∃ p, p < 2000 ∧ FP k = nI p ∧ ∀ a, a < na → PS (4 * p + a) = v k a
theorem x_num {na nf : Nat} {v : Nat → Nat → Int32} {scores : Nat → Int64} {FP PS : Nat → Int32} (hV : FV na nf v scores FP PS) {k a : Nat} (hk : k < nf) (ha : a < na) {post : Int32 → Prop} (h : post (v k a)) : wp_X3_number scores (nI k) (nI a) post := by
  obtain ⟨h1, h2, h3⟩ := hV
  obtain ⟨b1, b2, -⟩ := h3 k hk
  unfold wp_X3_number
  rw [cl_nI (by omega), b2]
  refine ⟨vp_in_nI (by omega) (by decide), w_number (fun a h4 => Nat.lt_trans (lnA_lt b1 a h4) (by decide)) (by omega) ?_⟩
  rw [lnA_num b1 ha]
  exact h
theorem x_at {na nf : Nat} {v : Nat → Nat → Int32} {scores : Nat → Int64} {FP PS : Nat → Int32} (hV : FV na nf v scores FP PS) {k a : Nat} (hk : k < nf) (ha : a < na) {post : Int32 → Prop} (h : post (v k a)) : wp_X7_at FP PS (nI k) (nI a) post := by
  obtain ⟨h1, h2, h3⟩ := hV
  obtain ⟨-, -, p, hp, e1, e2⟩ := h3 k hk
  unfold wp_X7_at
  rw [cl_nI (by omega), e1]
  refine ⟨vp_in_nI (by omega) (by decide), w_of hp (by omega) ?_⟩
  rw [e2 a ha]
  exact h
theorem w_isN {x : Int32} {n : Nat} (hn : n < 2147483648) {post : Int32 → Prop} (h1 : ∀ j : Nat, j < n → x = nI j → post 1) (h0 : (∀ j : Nat, j < n → x ≠ nI j) → post 0) : wp_X7_in x.toInt64 (0 : Int64) ((nI n - (1 : Int32)).toInt64) post := by
  have e : (nI n - (1 : Int32)).toInt = (n : Int) - 1 := by
    rw [← iZ_nat, show (1 : Int32) = iZ 1 from rfl, iZ_sub, iZ_toInt (by omega) (by omega)]
  refine w_inI (a := 0) (b := nI n - (1 : Int32)) (fun q1 q2 => ?_) (fun q => h0 (fun j hj ej => q ?_))
  · rw [e] at q2
    have z : Int32.toInt 0 = 0 := rfl
    rw [z] at q1
    have ex : x = nI x.toInt.toNat := by
      rw [← iZ_nat, Int.toNat_of_nonneg q1, iZ_of]
    exact h1 x.toInt.toNat (by omega) ex
  · subst ej
    rw [e, nI_toInt (by omega)]
    have z : Int32.toInt 0 = 0 := rfl
    omega
theorem w_isAim {x : Int32} {n : Nat} (hn : n < 2147483648) {post : Int32 → Prop} (h1 : ∀ j : Nat, j < n → x = nI j → post 1) (h0 : (∀ j : Nat, j < n → x ≠ nI j) → post 0) : wp_X7_isAim (nI n) x post := by
  unfold wp_X7_isAim
  exact w_isN hn (fun j hj e => ⟨bz_1, h1 j hj e⟩) (fun e => ⟨bz_0, h0 e⟩)
theorem w_isScore {x : Int32} {n : Nat} (hn : n < 2147483648) {post : Int32 → Prop} (h1 : ∀ j : Nat, j < n → x = nI j → post 1) (h0 : (∀ j : Nat, j < n → x ≠ nI j) → post 0) : wp_X7_isScore (nI n) x post := by
  unfold wp_X7_isScore
  exact w_isN hn (fun j hj e => ⟨bz_1, h1 j hj e⟩) (fun e => ⟨bz_0, h0 e⟩)
theorem w_isColumn {x : Int32} {n : Nat} (hn : n < 2147483648) {post : Int32 → Prop} (h1 : ∀ j : Nat, j < n → x = nI j → post 1) (h0 : (∀ j : Nat, j < n → x ≠ nI j) → post 0) : wp_X7_isColumn (nI n) x post := by
  unfold wp_X7_isColumn
  exact w_isN hn (fun j hj e => ⟨bz_1, h1 j hj e⟩) (fun e => ⟨bz_0, h0 e⟩)
theorem w_isRow {x : Int32} {n : Nat} (hn : n < 2147483648) {post : Int32 → Prop} (h1 : ∀ j : Nat, j < n → x = nI j → post 1) (h0 : (∀ j : Nat, j < n → x ≠ nI j) → post 0) : wp_X7_isRow (nI n) x post := by
  unfold wp_X7_isRow
  exact w_isN hn (fun j hj e => ⟨bz_1, h1 j hj e⟩) (fun e => ⟨bz_0, h0 e⟩)
/-- a call whose index is tested on both sides -/
theorem both_ix {x : Int32} {n : Nat} {A B : Prop} (h1 : ∀ j : Nat, j < n → x = nI j → A) (h0 : (∀ j : Nat, j < n → x ≠ nI j) → B) : (∃ j : Nat, j < n ∧ x = nI j ∧ A) ∨ ((∀ j : Nat, j < n → x ≠ nI j) ∧ B) := by
  by_cases h : ∃ j : Nat, j < n ∧ x = nI j
  · obtain ⟨j, hj, e⟩ := h
    exact Or.inl ⟨j, hj, e, h1 j hj e⟩
  · have h' : ∀ j : Nat, j < n → x ≠ nI j := fun j hj e => h ⟨j, hj, e⟩
    exact Or.inr ⟨h', h0 h'⟩
theorem nI_inj {a b : Nat} (ha : a < 2147483648) (hb : b < 2147483648) (e : nI a = nI b) : a = b := (nI_eq ha hb).mp e
section Q
variable {na nf : Nat} {v : Nat → Nat → Int32} {scores : Nat → Int64} {FP PS : Nat → Int32}
theorem m_score (hV : FV na nf v scores FP PS) {x y : Int32} {K : Int32 → Int32 → Prop} (hK : ∀ r, K r r) : wp_X6_score scores (nI nf) (nI na) x y (fun r => wp_X7_score (nI na) (nI nf) FP PS x y (fun r' => K r r')) := by
  have hV' := hV
  obtain ⟨h1, h2, -⟩ := hV'
  unfold wp_X6_score wp_X7_score
  refine w_amongN (by omega) (fun k hk ek => ⟨fun z => absurd z (by decide), fun _ => ?_⟩) (fun hk => ⟨fun _ => ?_, fun z => absurd rfl z⟩)
  · refine w_amongN (by omega) (fun a ha ea => ⟨fun z => absurd z (by decide), fun _ => ?_⟩) (fun ha => ⟨fun _ => ?_, fun z => absurd rfl z⟩)
    · subst ek ea
      refine x_num hV hk ha ?_
      refine w_isScore (by omega) (fun j hj e => ⟨fun z => absurd z (by decide), fun _ => ?_⟩) (fun z => absurd rfl (z k hk))
      refine w_isAim (by omega) (fun j hj e => ⟨fun z => absurd z (by decide), fun _ => ?_⟩) (fun z => absurd rfl (z a ha))
      exact x_at hV hk ha (hK _)
    · subst ek
      refine w_isScore (by omega) (fun j hj e => ⟨fun z => absurd z (by decide), fun _ => ?_⟩) (fun z => absurd rfl (z k hk))
      exact w_isAim (by omega) (fun j hj e => absurd e (ha j hj)) (fun z => ⟨fun _ => hK _, fun z => absurd rfl z⟩)
  · exact w_isScore (by omega) (fun j hj e => absurd e (hk j hj)) (fun z => ⟨fun _ => hK _, fun z => absurd rfl z⟩)
theorem m_ties (hn : nf ≤ 2000) {counts FT : Nat → Int32} (he : ∀ k, k < nf → counts k = FT k) {x : Int32} {K : Int32 → Int32 → Prop} (hK : ∀ r, K r r) : wp_X6_ties counts (nI nf) x (fun r => wp_X7_ties (nI nf) FT x (fun r' => K r r')) := by
  unfold wp_X6_ties wp_X7_ties
  refine w_amongN (by omega) (fun k hk ek => ⟨fun z => absurd z (by decide), fun _ => ?_⟩) (fun hk => ⟨fun _ => ?_, fun z => absurd rfl z⟩)
  · subst ek
    have hin : vp_in (nI k) 2000 := vp_in_nI (by omega) (by decide)
    refine ⟨hin, w_isScore (by omega) (fun j hj e => ⟨fun z => absurd z (by decide), fun _ => ⟨hin, ?_⟩⟩) (fun z => absurd rfl (z k hk))⟩
    rw [cl_nI (by omega), he k hk]
    exact hK _
  · exact w_isScore (by omega) (fun j hj e => absurd e (hk j hj)) (fun z => ⟨fun _ => hK _, fun z => absurd rfl z⟩)
/-- the least of f 0 .. f n, the greatest -/
def lmin (f : Nat → Int32) : Nat → Int32
  | 0 => f 0
  | n + 1 => if f (n + 1) < lmin f n then f (n + 1) else lmin f n
def lmax (f : Nat → Int32) : Nat → Int32
  | 0 => f 0
  | n + 1 => if lmax f n < f (n + 1) then f (n + 1) else lmax f n
theorem x_least (hV : FV na nf v scores FP PS) (hnf : 0 < nf) {a : Nat} (ha : a < na) {post : Int32 → Prop} (h : post (lmin (fun k => v k a) (nf - 1))) : wp_X3_least scores (nI nf) (nI a) post := by
  have hV' := hV
  obtain ⟨h1, h2, h3⟩ := hV'
  unfold wp_X3_least
  refine Lq2_inv (fun s i => ∃ j : Nat, j ≤ nf ∧ i = nI j ∧ s = if j = 0 then 2000 else lmin (fun k => v k a) (j - 1)) (fun _ i => nf - i.toNatClampNeg) ?_ _ _ ⟨0, Nat.zero_le _, rfl, rfl⟩
  rintro s i ⟨j, hj, rfl, rfl⟩ w hw
  unfold b_X3_least_6
  refine ⟨fun hle => ?_, fun hlt => ?_⟩
  · have : nf ≤ j := (nI_leI (by omega) (by omega)).mp hle
    have : j = nf := by omega
    subst this
    rw [if_neg (by omega)]
    exact h
  · have hjn := nI_leN (by omega) (by omega) hlt
    refine x_num hV hjn ha (hw _ _ ⟨j + 1, by omega, nI_1 j, ?_⟩ ?_)
    · rw [if_neg (show ¬ j + 1 = 0 by omega), Nat.add_sub_cancel]
      cases j with
      | zero =>
        rw [if_pos rfl]
        show _ = v 0 a
        split
        · rfl
        · rename_i q
          have b := (h3 0 hjn).1 a ha
          rw [Int32.lt_iff_toInt_lt] at q
          have z : Int32.toInt 2000 = 2000 := rfl
          rw [← Int32.toInt_inj]
          omega
      | succ j =>
        rw [if_neg (show ¬ j + 1 = 0 by omega), Nat.add_sub_cancel]
        rfl
    · rw [nI_1, cl_nI (by omega), cl_nI (by omega)]
      omega
theorem x_greatest (hV : FV na nf v scores FP PS) (hnf : 0 < nf) {a : Nat} (ha : a < na) {post : Int32 → Prop} (h : post (lmax (fun k => v k a) (nf - 1))) : wp_X3_greatest scores (nI nf) (nI a) post := by
  have hV' := hV
  obtain ⟨h1, h2, h3⟩ := hV'
  unfold wp_X3_greatest
  refine Lq2_inv (fun s i => ∃ j : Nat, j ≤ nf ∧ i = nI j ∧ s = if j = 0 then -2000 else lmax (fun k => v k a) (j - 1)) (fun _ i => nf - i.toNatClampNeg) ?_ _ _ ⟨0, Nat.zero_le _, rfl, rfl⟩
  rintro s i ⟨j, hj, rfl, rfl⟩ w hw
  unfold b_X3_greatest_6
  refine ⟨fun hle => ?_, fun hlt => ?_⟩
  · have : nf ≤ j := (nI_leI (by omega) (by omega)).mp hle
    have : j = nf := by omega
    subst this
    rw [if_neg (by omega)]
    exact h
  · have hjn := nI_leN (by omega) (by omega) hlt
    refine x_num hV hjn ha (hw _ _ ⟨j + 1, by omega, nI_1 j, ?_⟩ ?_)
    · rw [if_neg (show ¬ j + 1 = 0 by omega), Nat.add_sub_cancel]
      cases j with
      | zero =>
        rw [if_pos rfl]
        show _ = v 0 a
        split
        · rfl
        · rename_i q
          have b := (h3 0 hjn).1 a ha
          rw [Int32.lt_iff_toInt_lt] at q
          have z : Int32.toInt (-2000) = -2000 := rfl
          rw [← Int32.toInt_inj]
          omega
      | succ j =>
        rw [if_neg (show ¬ j + 1 = 0 by omega), Nat.add_sub_cancel]
        rfl
    · rw [nI_1, cl_nI (by omega), cl_nI (by omega)]
      omega
theorem y_least (hV : FV na nf v scores FP PS) (hnf : 0 < nf) {a : Nat} (ha : a < na) {post : Int32 → Prop} (h : post (lmin (fun k => v k a) (nf - 1))) : wp_X7_least (nI nf) FP PS (nI a) post := by
  have hV' := hV
  obtain ⟨h1, h2, h3⟩ := hV'
  unfold wp_X7_least
  refine x_at hV (k := 0) hnf ha ?_
  refine Lq2_inv (fun s i => ∃ j : Nat, j + 1 ≤ nf ∧ i = nI (j + 1) ∧ s = lmin (fun k => v k a) j) (fun _ i => nf - i.toNatClampNeg) ?_ _ _ ⟨0, by omega, rfl, rfl⟩
  rintro s i ⟨j, hj, rfl, rfl⟩ w hw
  unfold b_X7_least_9
  refine ⟨fun hle => ?_, fun hlt => ?_⟩
  · have : nf ≤ j + 1 := (nI_leI (by omega) (by omega)).mp hle
    have : nf - 1 = j := by omega
    rw [this] at h
    exact h
  · have hjn := nI_leN (by omega) (by omega) hlt
    have dec : nf - (nI (j + 1) + 1).toNatClampNeg < nf - (nI (j + 1)).toNatClampNeg := by
      rw [nI_1, cl_nI (by omega), cl_nI (by omega)]
      omega
    refine x_at hV hjn ha ⟨fun q => ?_, fun q => x_at hV hjn ha ?_⟩
    · refine hw _ _ ⟨j + 1, by omega, nI_1 _, ?_⟩ dec
      show _ = if v (j + 1) a < lmin (fun k => v k a) j then _ else _
      rw [if_neg (i_le_nlt q)]
    · refine hw _ _ ⟨j + 1, by omega, nI_1 _, ?_⟩ dec
      show _ = if v (j + 1) a < lmin (fun k => v k a) j then _ else _
      rw [if_pos (i_nle q)]
theorem y_greatest (hV : FV na nf v scores FP PS) (hnf : 0 < nf) {a : Nat} (ha : a < na) {post : Int32 → Prop} (h : post (lmax (fun k => v k a) (nf - 1))) : wp_X7_greatest (nI nf) FP PS (nI a) post := by
  have hV' := hV
  obtain ⟨h1, h2, h3⟩ := hV'
  unfold wp_X7_greatest
  refine x_at hV (k := 0) hnf ha ?_
  refine Lq2_inv (fun s i => ∃ j : Nat, j + 1 ≤ nf ∧ i = nI (j + 1) ∧ s = lmax (fun k => v k a) j) (fun _ i => nf - i.toNatClampNeg) ?_ _ _ ⟨0, by omega, rfl, rfl⟩
  rintro s i ⟨j, hj, rfl, rfl⟩ w hw
  unfold b_X7_greatest_9
  refine ⟨fun hle => ?_, fun hlt => ?_⟩
  · have : nf ≤ j + 1 := (nI_leI (by omega) (by omega)).mp hle
    have : nf - 1 = j := by omega
    rw [this] at h
    exact h
  · have hjn := nI_leN (by omega) (by omega) hlt
    have dec : nf - (nI (j + 1) + 1).toNatClampNeg < nf - (nI (j + 1)).toNatClampNeg := by
      rw [nI_1, cl_nI (by omega), cl_nI (by omega)]
      omega
    refine x_at hV hjn ha ⟨fun q => ?_, fun q => x_at hV hjn ha ?_⟩
    · refine hw _ _ ⟨j + 1, by omega, nI_1 _, ?_⟩ dec
      show _ = if lmax (fun k => v k a) j < v (j + 1) a then _ else _
      rw [if_neg (i_le_nlt q)]
    · refine hw _ _ ⟨j + 1, by omega, nI_1 _, ?_⟩ dec
      show _ = if lmax (fun k => v k a) j < v (j + 1) a then _ else _
      rw [if_pos (i_nle q)]
theorem nf_z {n : Nat} (hn : n < 2147483648) {A B : Prop} (h0 : n = 0 → A) (h1 : 0 < n → B) : (nI n = 0 → A) ∧ (¬ nI n = 0 → B) := by
  refine ⟨fun z => h0 ((nI_eq (b := 0) hn (by omega)).mp z), fun z => h1 ?_⟩
  rcases Nat.lt_or_ge 0 n with q | q
  · exact q
  · have : n = 0 := by omega
    subst this
    exact absurd rfl z
theorem m_ideal (hV : FV na nf v scores FP PS) {x : Int32} {K : Int32 → Int32 → Prop} (hK : ∀ r, K r r) : wp_X6_ideal scores (nI nf) (nI na) x (fun r => wp_X7_ideal (nI na) (nI nf) FP PS x (fun r' => K r r')) := by
  have hV' := hV
  obtain ⟨h1, h2, -⟩ := hV'
  unfold wp_X6_ideal wp_X7_ideal
  refine w_amongN (by omega) (fun a ha ea => ⟨fun z => absurd z (by decide), fun _ => ?_⟩) (fun ha => ⟨fun _ => ?_, fun z => absurd rfl z⟩)
  · subst ea
    refine nf_z (by omega) (fun e => ?_) (fun hp => ?_)
    · refine w_isAim (by omega) (fun j hj e => ⟨fun z => absurd z (by decide), fun _ => ?_⟩) (fun z => absurd rfl (z a ha))
      exact nf_z (by omega) (fun _ => hK _) (fun hp => absurd hp (by omega))
    · refine x_least hV hp ha ?_
      refine w_isAim (by omega) (fun j hj e => ⟨fun z => absurd z (by decide), fun _ => ?_⟩) (fun z => absurd rfl (z a ha))
      exact nf_z (by omega) (fun e => absurd e (by omega)) (fun _ => y_least hV hp ha (hK _))
  · exact w_isAim (by omega) (fun j hj e => absurd e (ha j hj)) (fun z => ⟨fun _ => hK _, fun z => absurd rfl z⟩)
theorem m_nadir (hV : FV na nf v scores FP PS) {x : Int32} {K : Int32 → Int32 → Prop} (hK : ∀ r, K r r) : wp_X6_nadir scores (nI nf) (nI na) x (fun r => wp_X7_nadir (nI na) (nI nf) FP PS x (fun r' => K r r')) := by
  have hV' := hV
  obtain ⟨h1, h2, -⟩ := hV'
  unfold wp_X6_nadir wp_X7_nadir
  refine w_amongN (by omega) (fun a ha ea => ⟨fun z => absurd z (by decide), fun _ => ?_⟩) (fun ha => ⟨fun _ => ?_, fun z => absurd rfl z⟩)
  · subst ea
    refine nf_z (by omega) (fun e => ?_) (fun hp => ?_)
    · refine w_isAim (by omega) (fun j hj e => ⟨fun z => absurd z (by decide), fun _ => ?_⟩) (fun z => absurd rfl (z a ha))
      exact nf_z (by omega) (fun _ => hK _) (fun hp => absurd hp (by omega))
    · refine x_greatest hV hp ha ?_
      refine w_isAim (by omega) (fun j hj e => ⟨fun z => absurd z (by decide), fun _ => ?_⟩) (fun z => absurd rfl (z a ha))
      exact nf_z (by omega) (fun e => absurd e (by omega)) (fun _ => y_greatest hV hp ha (hK _))
  · exact w_isAim (by omega) (fun j hj e => absurd e (ha j hj)) (fun z => ⟨fun _ => hK _, fun z => absurd rfl z⟩)
theorem m_picked {nk : Nat} (hn : nk ≤ 100) {picks pick : Nat → Int32} (he : ∀ i, i < nk → picks i = pick i) {x : Int32} {K : Int32 → Int32 → Prop} (hK : ∀ r, K r r) : wp_X6_picked picks (nI nk) x (fun r => wp_X7_picked pick (nI nk) x (fun r' => K r r')) := by
  unfold wp_X6_picked wp_X7_picked
  refine w_amongN (by omega) (fun k hk ek => ⟨fun z => absurd z (by decide), fun _ => ?_⟩) (fun hk => ⟨fun _ => ?_, fun z => absurd rfl z⟩)
  · subst ek
    refine ⟨vp_in_nI (by omega) (by decide), w_isN (by omega) (fun j hj e => ⟨fun z => absurd z (by decide), fun _ => ⟨vp_in_nI (by omega) (by decide), ?_⟩⟩) (fun z => absurd rfl (z k hk))⟩
    rw [cl_nI (by omega), he k hk]
    exact hK _
  · exact w_isN (by omega) (fun j hj e => absurd e (hk j hj)) (fun z => ⟨fun _ => hK _, fun z => absurd rfl z⟩)
theorem m_climbed {nc : Nat} (hn : nc ≤ 8) {place en : Nat → Int32} {hc hcM : Int32} (hh : hc = hcM) (he : ¬ hc = 0 → ∀ c, c < nc → place c = en c) {x : Int32} {K : Int32 → Int32 → Prop} (hK : ∀ r, K r r) : wp_X6_climbed hc place (nI nc) x (fun r => wp_X7_climbed (nI nc) en hcM x (fun r' => K r r')) := by
  subst hh
  unfold wp_X6_climbed wp_X7_climbed
  refine w_amongN (by omega) (fun k hk ek => ⟨fun z => absurd z (by decide), fun _ => ⟨fun z => ?_, fun z => ?_⟩⟩) (fun hk => ⟨fun _ => ?_, fun z => absurd rfl z⟩)
  · subst ek
    exact w_isColumn (by omega) (fun j hj e => ⟨fun z => absurd z (by decide), fun _ => ⟨fun _ => hK _, fun y => absurd z y⟩⟩) (fun z => absurd rfl (z k hk))
  · subst ek
    have hin : vp_in (nI k) 8 := vp_in_nI (by omega) (by decide)
    refine ⟨hin, w_isColumn (by omega) (fun j hj e => ⟨fun z => absurd z (by decide), fun _ => ⟨fun y => absurd y z, fun _ => ⟨hin, ?_⟩⟩⟩) (fun z => absurd rfl (z k hk))⟩
    rw [cl_nI (by omega), he z k hk]
    exact hK _
  · exact w_isColumn (by omega) (fun j hj e => absurd e (hk j hj)) (fun z => ⟨fun _ => hK _, fun z => absurd rfl z⟩)
end Q

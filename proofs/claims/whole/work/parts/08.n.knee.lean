/-! ===== the knee ===== -/
theorem lmin_le {f : Nat → Int32} : ∀ (n k : Nat), k ≤ n → (lmin f n).toInt ≤ (f k).toInt
  | 0, k, h => by
    have : k = 0 := by omega
    subst this
    exact Int.le_refl _
  | n + 1, k, h => by
    show (if f (n + 1) < lmin f n then f (n + 1) else lmin f n).toInt ≤ _
    by_cases c : f (n + 1) < lmin f n
    · rw [if_pos c]
      rw [Int32.lt_iff_toInt_lt] at c
      rcases Nat.lt_or_ge n k with q | q
      · have : k = n + 1 := by omega
        subst this
        exact Int.le_refl _
      · have := lmin_le (f := f) n k q
        omega
    · rw [if_neg c]
      rw [Int32.lt_iff_toInt_lt] at c
      rcases Nat.lt_or_ge n k with q | q
      · have : k = n + 1 := by omega
        subst this
        omega
      · exact lmin_le n k q
theorem lmax_ge {f : Nat → Int32} : ∀ (n k : Nat), k ≤ n → (f k).toInt ≤ (lmax f n).toInt
  | 0, k, h => by
    have : k = 0 := by omega
    subst this
    exact Int.le_refl _
  | n + 1, k, h => by
    show _ ≤ (if lmax f n < f (n + 1) then f (n + 1) else lmax f n).toInt
    by_cases c : lmax f n < f (n + 1)
    · rw [if_pos c]
      rw [Int32.lt_iff_toInt_lt] at c
      rcases Nat.lt_or_ge n k with q | q
      · have : k = n + 1 := by omega
        subst this
        exact Int.le_refl _
      · have := lmax_ge (f := f) n k q
        omega
    · rw [if_neg c]
      rw [Int32.lt_iff_toInt_lt] at c
      rcases Nat.lt_or_ge n k with q | q
      · have : k = n + 1 := by omega
        subst this
        omega
      · exact lmax_ge n k q
theorem lmin_in {f : Nat → Int32} : ∀ (n : Nat), ∃ k, k ≤ n ∧ lmin f n = f k
  | 0 => ⟨0, Nat.le_refl _, rfl⟩
  | n + 1 => by
    obtain ⟨k, hk, e⟩ := lmin_in (f := f) n
    by_cases c : f (n + 1) < lmin f n
    · exact ⟨n + 1, Nat.le_refl _, if_pos c⟩
    · exact ⟨k, by omega, (if_neg c).trans e⟩
theorem lmax_in {f : Nat → Int32} : ∀ (n : Nat), ∃ k, k ≤ n ∧ lmax f n = f k
  | 0 => ⟨0, Nat.le_refl _, rfl⟩
  | n + 1 => by
    obtain ⟨k, hk, e⟩ := lmax_in (f := f) n
    by_cases c : lmax f n < f (n + 1)
    · exact ⟨n + 1, Nat.le_refl _, if_pos c⟩
    · exact ⟨k, by omega, (if_neg c).trans e⟩
def mnA (v : Nat → Nat → Int32) (nf a : Nat) : Int32 := lmin (fun k => v k a) (nf - 1)
def mxA (v : Nat → Nat → Int32) (nf a : Nat) : Int32 := lmax (fun k => v k a) (nf - 1)
/-- an aim's range, at least 1; how far score k is from the least -/
def rgA (v : Nat → Nat → Int32) (nf a : Nat) : Nat := max 1 ((mxA v nf a).toInt - (mnA v nf a).toInt).toNat
def dsA (v : Nat → Nat → Int32) (nf k a : Nat) : Nat := ((v k a).toInt - (mnA v nf a).toInt).toNat
def pB (B : Nat → Nat) : Nat → Nat
  | 0 => 1
  | n + 1 => pB B n * B n
def pX (B : Nat → Nat) (a : Nat) : Nat → Nat
  | 0 => 1
  | n + 1 => if n = a then pX B a n else pX B a n * B n
theorem pX_out {B : Nat → Nat} {a : Nat} : ∀ (n : Nat), n ≤ a → pX B a n = pB B n
  | 0, _ => rfl
  | n + 1, h => by
    show (if n = a then pX B a n else pX B a n * B n) = pB B n * B n
    rw [if_neg (by omega), pX_out n (by omega)]
theorem pX_in {B : Nat → Nat} {a : Nat} : ∀ (n : Nat), a < n → pX B a n * B a = pB B n
  | n + 1, h => by
    show (if n = a then pX B a n else pX B a n * B n) * B a = pB B n * B n
    by_cases e : n = a
    · subst e
      rw [if_pos rfl, pX_out n (Nat.le_refl _)]
    · rw [if_neg e, Nat.mul_right_comm, pX_in n (by omega)]
theorem pB_le {B : Nat → Nat} (h : ∀ a, 1 ≤ B a ∧ B a ≤ 4000) : ∀ (n : Nat), 1 ≤ pB B n ∧ pB B n ≤ 4000 ^ n
  | 0 => ⟨Nat.le_refl _, Nat.le_refl _⟩
  | n + 1 => by
    have ih := pB_le h n
    exact ⟨Nat.mul_le_mul ih.1 (h n).1, by rw [Nat.pow_succ]; exact Nat.mul_le_mul ih.2 (h n).2⟩
theorem pX_le {B : Nat → Nat} {a : Nat} (h : ∀ a, 1 ≤ B a ∧ B a ≤ 4000) : ∀ (n : Nat), 1 ≤ pX B a n ∧ pX B a n ≤ 4000 ^ n
  | 0 => ⟨Nat.le_refl _, Nat.le_refl _⟩
  | n + 1 => by
    have ih := pX_le (a := a) h n
    have hp : 4000 ^ n ≤ 4000 ^ (n + 1) := Nat.pow_le_pow_right (by decide) (Nat.le_succ n)
    show 1 ≤ (if n = a then pX B a n else pX B a n * B n) ∧ (if n = a then pX B a n else pX B a n * B n) ≤ 4000 ^ (n + 1)
    by_cases e : n = a
    · rw [if_pos e]
      exact ⟨ih.1, Nat.le_trans ih.2 hp⟩
    · rw [if_neg e]
      exact ⟨Nat.mul_le_mul ih.1 (h n).1, by rw [Nat.pow_succ]; exact Nat.mul_le_mul ih.2 (h n).2⟩
theorem pow4 {n : Nat} (h : n ≤ 4) : 4000 ^ n ≤ 256000000000000 := Nat.le_trans (Nat.pow_le_pow_right (by decide) h) (by decide)
/-- the distance by a rule, over the first n aims -/
def farN (rule : Nat) (T : Nat → Nat) : Nat → Nat
  | 0 => 0
  | n + 1 => if rule = 0 then farN rule T n + T n else max (farN rule T n) (T n)
theorem farN_le {rule : Nat} {T : Nat → Nat} {M : Nat} : ∀ (n : Nat), (∀ a, a < n → T a ≤ M) → farN rule T n ≤ n * M
  | 0, _ => Nat.zero_le _
  | n + 1, h => by
    have ih := farN_le (rule := rule) n (fun a ha => h a (by omega))
    have hn := h n (by omega)
    show (if rule = 0 then farN rule T n + T n else max (farN rule T n) (T n)) ≤ (n + 1) * M
    rw [Nat.succ_mul]
    split <;> omega
theorem toInt64_jZ (x : Int32) : x.toInt64 = jZ x.toInt := by
  rw [← Int64.toInt_inj, Int32.toInt_toInt64, jZ_toInt]
  · have := x.le_toInt
    omega
  · have := x.toInt_lt
    omega
section KN
variable {na nf : Nat} {v : Nat → Nat → Int32} {scores : Nat → Int64} {FP PS : Nat → Int32}
theorem FV_rng (hV : FV na nf v scores FP PS) (hnf : 0 < nf) {a : Nat} (ha : a < na) : -2000 ≤ (mnA v nf a).toInt ∧ (mnA v nf a).toInt ≤ (mxA v nf a).toInt ∧ (mxA v nf a).toInt ≤ 2000 := by
  obtain ⟨h1, h2, h3⟩ := hV
  obtain ⟨k, hk, e⟩ := lmin_in (f := fun k => v k a) (nf - 1)
  obtain ⟨k', hk', e'⟩ := lmax_in (f := fun k => v k a) (nf - 1)
  have b1 := (h3 k (by omega)).1 a ha
  have b2 := (h3 k' (by omega)).1 a ha
  have b3 := lmin_le (f := fun k => v k a) (nf - 1) k' hk'
  unfold mnA mxA
  rw [e'] at *
  rw [e] at b3 ⊢
  exact ⟨b1.1, b3, b2.2⟩
theorem FV_ds (hV : FV na nf v scores FP PS) {a k : Nat} (ha : a < na) (hk : k < nf) : v k a - mnA v nf a = nI (dsA v nf k a) ∧ dsA v nf k a ≤ 4000 := by
  have hr := FV_rng hV (by omega) ha
  have b3 : (mnA v nf a).toInt ≤ (v k a).toInt := lmin_le (f := fun k => v k a) (nf - 1) k (by omega)
  obtain ⟨h1, h2, h3⟩ := hV
  have b1 := (h3 k hk).1 a ha
  have e1 : ((dsA v nf k a : Nat) : Int) = (v k a).toInt - (mnA v nf a).toInt := by
    unfold dsA
    omega
  refine ⟨?_, by omega⟩
  rw [← iZ_nat, e1, ← iZ_sub, iZ_of, iZ_of]
theorem FV_rg (hV : FV na nf v scores FP PS) (hnf : 0 < nf) {a : Nat} (ha : a < na) : 1 ≤ rgA v nf a ∧ rgA v nf a ≤ 4000 ∧ mxA v nf a - mnA v nf a = iZ ((mxA v nf a).toInt - (mnA v nf a).toInt) := by
  have hr := FV_rng hV hnf ha
  refine ⟨?_, ?_, ?_⟩
  · unfold rgA
    omega
  · unfold rgA
    omega
  · rw [← iZ_sub, iZ_of, iZ_of]
/-- ranges, 1 where there is no aim -/
def rgB (v : Nat → Nat → Int32) (na nf a : Nat) : Nat := if a < na then rgA v nf a else 1
theorem rgB_bd (hV : FV na nf v scores FP PS) (hnf : 0 < nf) : ∀ a, 1 ≤ rgB v na nf a ∧ rgB v na nf a ≤ 4000 := fun a => by
  unfold rgB
  by_cases ha : a < na
  · rw [if_pos ha]
    have := FV_rg hV hnf ha
    omega
  · rw [if_neg ha]
    omega
/-- a term of the distance -/
def tmA (v : Nat → Nat → Int32) (na nf k a : Nat) : Nat := dsA v nf k a * pX (rgB v na nf) a na
theorem tmA_le (hV : FV na nf v scores FP PS) {k a : Nat} (hk : k < nf) (ha : a < na) : tmA v na nf k a ≤ 1024000000000000000 := by
  have h1 := (FV_ds hV ha hk).2
  have h2 := (pX_le (a := a) (rgB_bd hV (by omega)) na).2
  have h3 := pow4 hV.2.1
  exact Nat.le_trans (Nat.mul_le_mul h1 (Nat.le_trans h2 h3)) (by decide)
theorem far_lt (hV : FV na nf v scores FP PS) {rule k : Nat} (hk : k < nf) {n : Nat} (hn : n ≤ na) : farN rule (tmA v na nf k) n < 2 ^ 63 := by
  have := farN_le (rule := rule) (T := tmA v na nf k) n (fun a ha => tmA_le hV hk (by omega))
  have h4 := hV.2.1
  have h5 : n * 1024000000000000000 ≤ 4 * 1024000000000000000 := Nat.mul_le_mul (by omega) (Nat.le_refl _)
  omega
theorem x_measure (hV : FV na nf v scores FP PS) (hnf : 0 < nf) {ideals : Nat → Int32} {scales : Nat → Int64} {post : (Nat → Int32) → (Nat → Int64) → Prop} (h : ∀ (i : Nat → Int32) (s : Nat → Int64), (∀ a, a < na → i a = mnA v nf a ∧ s a = lN (pX (rgB v na nf) a na)) → post i s) : wp_X3_measure ideals scales scores (nI nf) (nI na) post := by
  have hV' := hV
  obtain ⟨n1, n2, n3⟩ := hV'
  have hB := rgB_bd hV hnf
  have hpB := pB_le hB
  unfold wp_X3_measure
  refine Lq4_inv (fun p i id sc => ∃ j : Nat, j ≤ na ∧ i = nI j ∧ p = lN (pB (rgB v na nf) j) ∧ ∀ a, a < j → id a = mnA v nf a ∧ sc a = lN (rgB v na nf a)) (fun _ i _ _ => na - i.toNatClampNeg) ?_ _ _ _ _ ⟨0, Nat.zero_le _, rfl, rfl, fun a h => absurd h (Nat.not_lt_zero _)⟩
  rintro p i id sc ⟨j, hj, rfl, rfl, hid⟩ w hw
  unfold b_X3_measure_5
  refine ⟨fun hle => ?_, fun hlt => ?_⟩
  · have : na ≤ j := (nI_leI (by omega) (by omega)).mp hle
    have : j = na := by omega
    subst this
    refine Lq2_inv (fun i s2 => ∃ b : Nat, b ≤ j ∧ i = nI b ∧ (∀ a, a < b → s2 a = lN (pX (rgB v j nf) a j)) ∧ ∀ a, b ≤ a → a < j → s2 a = lN (rgB v j nf a)) (fun i _ => j - i.toNatClampNeg) ?_ _ _ ⟨0, Nat.zero_le _, rfl, fun a h => absurd h (Nat.not_lt_zero _), fun a _ ha => (hid a ha).2⟩
    rintro i s2 ⟨b, hb, rfl, e1, e2⟩ w2 hw2
    unfold b_X3_measure_69
    refine ⟨fun hle => ?_, fun hlt => ?_⟩
    · have : j ≤ b := (nI_leI (by omega) (by omega)).mp hle
      exact h id s2 (fun a ha => ⟨(hid a ha).1, e1 a (by omega)⟩)
    · have hbn := nI_leN (by omega) (by omega) hlt
      have hin : vp_in (nI b) 4 := vp_in_nI (by omega) (by decide)
      have hBb := hB b
      rw [cl_nI (by omega), e2 b (Nat.le_refl _) hbn]
      have eif : (if lN (rgB v j nf b) < (1 : Int64) then (1 : Int64) else lN (rgB v j nf b)) = lN (rgB v j nf b) := by
        refine if_neg (fun q => ?_)
        have := (lN_lt (a := rgB v j nf b) (b := 1) (by omega) (by omega)).mp q
        omega
      rw [eif]
      have hne : ¬ lN (rgB v j nf b) = 0 := fun q => by
        have := (lN_eq (a := rgB v j nf b) (b := 0) (by omega) (by omega)).mp q
        omega
      have hpj := hpB j
      have h4 := pow4 n2
      have ed : lN (pB (rgB v j nf) j) / lN (rgB v j nf b) = lN (pX (rgB v j nf) b j) := by
        rw [pk_lDiv (by omega) (by omega) (by omega), ← pX_in j hbn, Nat.mul_div_cancel _ (by omega)]
      rw [ed]
      refine ⟨hin, hne, hin, hw2 _ _ ⟨b + 1, by omega, nI_1 b, fun a ha => ?_, fun a h1 h2 => ?_⟩ ?_⟩
      · by_cases y : a = b
        · subst y
          rw [updL_s]
        · rw [updL_n y]
          exact e1 a (by omega)
      · rw [updL_n (by omega)]
        exact e2 a (by omega) h2
      · rw [nI_1, cl_nI (by omega), cl_nI (by omega)]
        omega
  · have hjn := nI_leN (by omega) (by omega) hlt
    have hin : vp_in (nI j) 4 := vp_in_nI (by omega) (by decide)
    refine x_least hV hnf hjn ⟨hin, x_greatest hV hnf hjn ⟨hin, hin, hin, ?_⟩⟩
    rw [cl_nI (by omega), upd_s, updL_s]
    have hr := FV_rng hV hnf hjn
    have hg := FV_rg hV hnf hjn
    have eg : ((if (1 : Int32) < lmax (fun k => v k j) (nf - 1) - lmin (fun k => v k j) (nf - 1) then lmax (fun k => v k j) (nf - 1) - lmin (fun k => v k j) (nf - 1) else (1 : Int32))).toInt64 = lN (rgB v na nf j) := by
      show ((if (1 : Int32) < mxA v nf j - mnA v nf j then mxA v nf j - mnA v nf j else (1 : Int32))).toInt64 = _
      have hB2 : rgB v na nf j = rgA v nf j := if_pos hjn
      rw [hg.2.2, hB2]
      by_cases c : (1 : Int32) < iZ ((mxA v nf j).toInt - (mnA v nf j).toInt)
      · rw [if_pos c, toInt64_jZ, iZ_toInt (by omega) (by omega), ← jZ_nat]
        have c' := (iZ_lt (a := 1) (by omega) (by omega)).mp c
        congr 1
        unfold rgA
        omega
      · rw [if_neg c]
        have c' : ¬ 1 < (mxA v nf j).toInt - (mnA v nf j).toInt := fun z => c ((iZ_lt (a := 1) (by omega) (by omega)).mpr z)
        have : rgA v nf j = 1 := by
          unfold rgA
          omega
        rw [this]
        rfl
    rw [eg]
    refine hw _ _ _ _ ⟨j + 1, by omega, nI_1 j, by rw [lN_mul]; rfl, fun a ha => ?_⟩ ?_
    · by_cases y : a = j
      · subst y
        rw [upd_s, updL_s]
        exact ⟨rfl, rfl⟩
      · rw [upd_n y, updL_n y]
        exact hid a (by omega)
    · rw [nI_1, cl_nI (by omega), cl_nI (by omega)]
      omega
theorem x_kneeBy (hV : FV na nf v scores FP PS) (hnf : 0 < nf) {rule : Nat} (hr : rule < 2) {ideals : Nat → Int32} {scales : Nat → Int64} {post : Int32 → (Nat → Int32) → (Nat → Int64) → Prop} (h : ∀ (i : Nat → Int32) (s : Nat → Int64), post (nI (bestF (fun k o => farN rule (tmA v na nf k) na < farN rule (tmA v na nf o) na) (nf - 1))) i s) : wp_X3_kneeBy ideals scales scores (nI nf) (nI rule) (nI na) post := by
  have hV' := hV
  obtain ⟨n1, n2, n3⟩ := hV'
  unfold wp_X3_kneeBy
  refine x_measure hV hnf (fun id sc hid => ?_)
  refine Lq3_inv (fun b s i => ∃ j : Nat, j ≤ nf ∧ i = nI j ∧ ((j = 0 ∧ b = 0 ∧ s = 9223372036854775807) ∨ (0 < j ∧ b = nI (bestF (fun k o => farN rule (tmA v na nf k) na < farN rule (tmA v na nf o) na) (j - 1)) ∧ s = lN (farN rule (tmA v na nf (bestF (fun k o => farN rule (tmA v na nf k) na < farN rule (tmA v na nf o) na) (j - 1))) na)))) (fun _ _ i => nf - i.toNatClampNeg) ?_ _ _ _ ⟨0, Nat.zero_le _, rfl, Or.inl ⟨rfl, rfl, rfl⟩⟩
  rintro b s i ⟨j, hj, rfl, hb⟩ w hw
  unfold b_X3_kneeBy_15
  refine ⟨fun hle => ?_, fun hlt => ?_⟩
  · have : nf ≤ j := (nI_leI (by omega) (by omega)).mp hle
    have : j = nf := by omega
    subst this
    rcases hb with hb | hb
    · omega
    · rw [hb.2.1]
      exact h _ _
  · have hjn := nI_leN (by omega) (by omega) hlt
    have dec : nf - (nI j + 1).toNatClampNeg < nf - (nI j).toNatClampNeg := by
      rw [nI_1, cl_nI (by omega), cl_nI (by omega)]
      omega
    refine Lq2_inv (fun z i => ∃ a : Nat, a ≤ na ∧ i = nI a ∧ z = lN (farN rule (tmA v na nf j) a)) (fun _ i => na - i.toNatClampNeg) ?_ _ _ ⟨0, Nat.zero_le _, rfl, rfl⟩
    rintro z i ⟨a, ha, rfl, rfl⟩ w2 hw2
    unfold b_X3_kneeBy_30
    refine ⟨fun hle => ?_, fun hlt2 => ?_⟩
    · have : na ≤ a := (nI_leI (by omega) (by omega)).mp hle
      have : a = na := by omega
      subst this
      have bj := far_lt hV (rule := rule) hjn (Nat.le_refl a)
      rcases hb with ⟨rfl, rfl, rfl⟩ | ⟨hj0, rfl, rfl⟩
      · refine ⟨fun q => ?_, fun q => ?_⟩
        · have e9 : (9223372036854775807 : Int64) = lN 9223372036854775807 := rfl
          rw [e9, pk_lLE (by omega) bj] at q
          have := farN_le (rule := rule) (T := tmA v a nf 0) a (fun a' ha' => tmA_le hV hjn ha')
          have h5 : a * 1024000000000000000 ≤ 4 * 1024000000000000000 := Nat.mul_le_mul (by omega) (Nat.le_refl _)
          omega
        · exact hw _ _ _ ⟨0 + 1, by omega, nI_1 0, Or.inr ⟨by omega, rfl, rfl⟩⟩ dec
      · have bl := bestF_le (less := fun k o => farN rule (tmA v a nf k) a < farN rule (tmA v a nf o) a) (j - 1)
        have bb := far_lt hV (rule := rule) (show bestF (fun k o => farN rule (tmA v a nf k) a < farN rule (tmA v a nf o) a) (j - 1) < nf by omega) (Nat.le_refl a)
        have ej : j - 1 + 1 = j := by omega
        refine ⟨fun q => ?_, fun q => ?_⟩
        · rw [pk_lLE bb bj] at q
          have e := bestF_no (less := fun k o => farN rule (tmA v a nf k) a < farN rule (tmA v a nf o) a) (n := j - 1) (by show ¬ _ < _; rw [ej]; omega)
          rw [ej] at e
          exact hw _ _ _ ⟨j + 1, by omega, nI_1 j, Or.inr ⟨by omega, by rw [Nat.add_sub_cancel, e], by rw [Nat.add_sub_cancel, e]⟩⟩ dec
        · rw [pk_lLE bb bj] at q
          have e := bestF_yes (less := fun k o => farN rule (tmA v a nf k) a < farN rule (tmA v a nf o) a) (n := j - 1) (by show _ < _; rw [ej]; omega)
          rw [ej] at e
          exact hw _ _ _ ⟨j + 1, by omega, nI_1 j, Or.inr ⟨by omega, by rw [Nat.add_sub_cancel, e], by rw [Nat.add_sub_cancel, e]⟩⟩ dec
    · have han := nI_leN (by omega) (by omega) hlt2
      have hin : vp_in (nI a) 4 := vp_in_nI (by omega) (by decide)
      have dec2 : na - (nI a + 1).toNatClampNeg < na - (nI a).toNatClampNeg := by
        rw [nI_1, cl_nI (by omega), cl_nI (by omega)]
        omega
      have hds := FV_ds hV han hjn
      refine x_num hV hjn han ⟨hin, hin, ?_⟩
      rw [cl_nI (by omega), (hid a han).1, (hid a han).2, hds.1, nI_l (by omega), lN_mul]
      have hT := tmA_le hV hjn han
      have hf := far_lt hV (rule := rule) hjn (Nat.le_of_lt han)
      refine ⟨fun q => hw2 _ _ ⟨a + 1, by omega, nI_1 a, ?_⟩ dec2, fun q => hw2 _ _ ⟨a + 1, by omega, nI_1 a, ?_⟩ dec2⟩
      · have e0 : rule = 0 := (nI_eq (b := 0) (by omega) (by omega)).mp q
        rw [lN_add]
        show _ = lN (if rule = 0 then _ else _)
        rw [if_pos e0]
        rfl
      · have e0 : ¬ rule = 0 := fun z => q (by rw [z]; rfl)
        show _ = lN (if rule = 0 then _ else max (farN rule (tmA v na nf j) a) (tmA v na nf j a))
        rw [if_neg e0]
        show (if lN (tmA v na nf j a) < _ then _ else lN (tmA v na nf j a)) = _
        by_cases c : tmA v na nf j a < farN rule (tmA v na nf j) a
        · rw [if_pos ((pk_lLT (by omega) hf).mpr c), Nat.max_eq_left (by omega)]
        · rw [if_neg (fun z => c ((pk_lLT (by omega) hf).mp z)), Nat.max_eq_right (by omega)]
theorem y_distance (hV : FV na nf v scores FP PS) {by_ : Nat → Int64} (hby : ∀ a, a < na → by_ a = lN (rgB v na nf a)) {rule : Nat} (hr : rule < 2) {k : Nat} (hk : k < nf) {post : Int64 → Prop} (h : post (lN (farN rule (tmA v na nf k) na))) : wp_X7_distance (nI na) by_ (nI nf) FP PS (nI k) (nI rule) post := by
  have hV' := hV
  obtain ⟨n1, n2, n3⟩ := hV'
  unfold wp_X7_distance
  refine Lq2_inv (fun z i => ∃ a : Nat, a ≤ na ∧ i = nI a ∧ z = lN (farN rule (tmA v na nf k) a)) (fun _ i => na - i.toNatClampNeg) ?_ _ _ ⟨0, Nat.zero_le _, rfl, rfl⟩
  rintro z i ⟨a, ha, rfl, rfl⟩ w hw
  unfold b_X7_distance_5
  refine ⟨fun hle => ?_, fun hlt => ?_⟩
  · have : na ≤ a := (nI_leI (by omega) (by omega)).mp hle
    have : a = na := by omega
    subst this
    exact h
  · have han := nI_leN (by omega) (by omega) hlt
    have dec : na - (nI a + 1).toNatClampNeg < na - (nI a).toNatClampNeg := by
      rw [nI_1, cl_nI (by omega), cl_nI (by omega)]
      omega
    have hds := FV_ds hV han hk
    refine x_at hV hk han (y_least hV (by omega) han ?_)
    rw [show v k a - lmin (fun k => v k a) (nf - 1) = nI (dsA v nf k a) from hds.1, nI_l (by omega)]
    refine Lq2_inv (fun d i => ∃ o : Nat, o ≤ na ∧ i = nI o ∧ d = lN (dsA v nf k a * pX (rgB v na nf) a o)) (fun _ i => na - i.toNatClampNeg) ?_ _ _ ⟨0, Nat.zero_le _, rfl, by show _ = lN (dsA v nf k a * 1); rw [Nat.mul_one]⟩
    rintro d i ⟨o, ho, rfl, rfl⟩ w2 hw2
    unfold b_X7_distance_34
    refine ⟨fun hle => ?_, fun hlt2 => ?_⟩
    · have : na ≤ o := (nI_leI (by omega) (by omega)).mp hle
      have : o = na := by omega
      subst this
      have hT := tmA_le hV hk han
      have hf := far_lt hV (rule := rule) hk (Nat.le_of_lt han)
      show (nI rule = 0 → w (_ + lN (tmA v o nf k a)) _) ∧ (¬ nI rule = 0 → (lN (tmA v o nf k a) ≤ _ → w _ _) ∧ (¬ lN (tmA v o nf k a) ≤ _ → w (lN (tmA v o nf k a)) _))
      refine ⟨fun q => ?_, fun q => ⟨fun c => ?_, fun c => ?_⟩⟩
      · have e0 : rule = 0 := (nI_eq (b := 0) (by omega) (by omega)).mp q
        refine hw _ _ ⟨a + 1, by omega, nI_1 a, ?_⟩ dec
        rw [lN_add]
        show _ = lN (if rule = 0 then _ else _)
        rw [if_pos e0]
      · have e0 : ¬ rule = 0 := fun z => q (by rw [z]; rfl)
        have c' := (pk_lLE (by omega) hf).mp c
        refine hw _ _ ⟨a + 1, by omega, nI_1 a, ?_⟩ dec
        show _ = lN (if rule = 0 then _ else max (farN rule (tmA v o nf k) a) (tmA v o nf k a))
        rw [if_neg e0, Nat.max_eq_left c']
      · have e0 : ¬ rule = 0 := fun z => q (by rw [z]; rfl)
        have c' : ¬ tmA v o nf k a ≤ farN rule (tmA v o nf k) a := fun z => c ((pk_lLE (by omega) hf).mpr z)
        refine hw _ _ ⟨a + 1, by omega, nI_1 a, ?_⟩ dec
        show _ = lN (if rule = 0 then _ else max (farN rule (tmA v o nf k) a) (tmA v o nf k a))
        rw [if_neg e0, Nat.max_eq_right (by omega)]
    · have hon := nI_leN (by omega) (by omega) hlt2
      have dec2 : na - (nI o + 1).toNatClampNeg < na - (nI o).toNatClampNeg := by
        rw [nI_1, cl_nI (by omega), cl_nI (by omega)]
        omega
      refine ⟨fun q => hw2 _ _ ⟨o + 1, by omega, nI_1 o, ?_⟩ dec2, fun q => ⟨vp_in_nI (by omega) (by decide), hw2 _ _ ⟨o + 1, by omega, nI_1 o, ?_⟩ dec2⟩⟩
      · have e0 : o = a := nI_inj (by omega) (by omega) q
        show _ = lN (_ * if o = a then pX (rgB v na nf) a o else _)
        rw [if_pos e0]
      · have e0 : ¬ o = a := fun z => q (by rw [z])
        show _ = lN (_ * if o = a then pX (rgB v na nf) a o else pX (rgB v na nf) a o * rgB v na nf o)
        rw [if_neg e0, cl_nI (by omega), hby o hon, lN_mul, Nat.mul_assoc]
theorem m_knee (hV : FV na nf v scores FP PS) {ideals : Nat → Int32} {scales by_ : Nat → Int64} {x : Int32} {K : Int32 → (Nat → Int32) → (Nat → Int64) → Int32 → (Nat → Int64) → Prop} (hK : ∀ r i s b, K r i s r b) : wp_X6_knee ideals scales scores (nI nf) (nI na) x (fun r i s => wp_X7_knee (nI na) by_ (nI nf) FP PS x (fun r' b => K r i s r' b)) := by
  have hV' := hV
  obtain ⟨n1, n2, n3⟩ := hV'
  have t1 : Int32.toInt 1 = 1 := rfl
  have t0 : Int32.toInt 0 = 0 := rfl
  have inr : ∀ {post : Int32 → Prop}, (∀ j : Nat, j < 2 → x = nI j → post 1) → ((∀ j : Nat, j < 2 → x ≠ nI j) → post 0) → wp_X7_in x.toInt64 (0 : Int64) (1 : Int64) post := fun h1 h0 => w_isN (n := 2) (by omega) h1 h0
  unfold wp_X6_knee wp_X7_knee
  refine w_amongN (n := 2) (by omega) (fun rule hr er => ⟨fun z => absurd z (by decide), fun _ => ?_⟩) (fun hr => ⟨fun _ => ?_, fun z => absurd rfl z⟩)
  · refine nf_z (by omega) (fun e => ?_) (fun hnf => ?_)
    · refine inr (fun j hj e' => ⟨fun z => absurd z (by decide), fun _ => ?_⟩) (fun z => absurd er (z rule hr))
      exact nf_z (by omega) (fun _ => hK _ _ _ _) (fun hp => absurd hp (by omega))
    · rw [er]
      refine x_kneeBy hV hnf hr (fun i s => ?_)
      rw [← er]
      refine inr (fun j hj e' => ⟨fun z => absurd z (by decide), fun _ => ?_⟩) (fun z => absurd er (z rule hr))
      refine nf_z (by omega) (fun e => absurd e (by omega)) (fun _ => ?_)
      refine Lq2_inv (fun i b => ∃ j : Nat, j ≤ na ∧ i = nI j ∧ ∀ a, a < j → b a = lN (rgB v na nf a)) (fun i _ => na - i.toNatClampNeg) ?_ _ _ ⟨0, Nat.zero_le _, rfl, fun a h => absurd h (Nat.not_lt_zero _)⟩
      rintro i' b ⟨j, hj, rfl, hb⟩ w hw
      unfold b_X7_knee_25
      refine ⟨fun hle => ?_, fun hlt => ?_⟩
      · have : na ≤ j := (nI_leI (by omega) (by omega)).mp hle
        have : j = na := by omega
        subst this
        rw [er]
        refine y_distance hV hb hr (k := 0) hnf ?_
        refine Lq3_inv (fun b s i => ∃ m : Nat, m + 1 ≤ nf ∧ i = nI (m + 1) ∧ b = nI (bestF (fun k o => farN rule (tmA v j nf k) j < farN rule (tmA v j nf o) j) m) ∧ s = lN (farN rule (tmA v j nf (bestF (fun k o => farN rule (tmA v j nf k) j < farN rule (tmA v j nf o) j) m)) j)) (fun _ _ i => nf - i.toNatClampNeg) ?_ _ _ _ ⟨0, by omega, rfl, rfl, rfl⟩
        rintro bb s i'' ⟨m, hm, rfl, rfl, rfl⟩ w2 hw2
        unfold b_X7_knee_81
        refine ⟨fun hle => ?_, fun hlt => ?_⟩
        · have : nf ≤ m + 1 := (nI_leI (by omega) (by omega)).mp hle
          have : nf - 1 = m := by omega
          rw [this]
          exact hK _ _ _ _
        · have hmn := nI_leN (by omega) (by omega) hlt
          have bl := bestF_le (less := fun k o => farN rule (tmA v j nf k) j < farN rule (tmA v j nf o) j) m
          have dec : nf - (nI (m + 1) + 1).toNatClampNeg < nf - (nI (m + 1)).toNatClampNeg := by
            rw [nI_1, cl_nI (by omega), cl_nI (by omega)]
            omega
          have b1 := far_lt hV (rule := rule) hmn (Nat.le_refl j)
          have b2 := far_lt hV (rule := rule) (show bestF (fun k o => farN rule (tmA v j nf k) j < farN rule (tmA v j nf o) j) m < nf by omega) (Nat.le_refl j)
          refine y_distance hV hb hr hmn ?_
          unfold jn1
          refine ⟨fun q => ⟨fun _ => ?_, fun y => absurd q y⟩, fun q => ⟨fun y => absurd y q, fun _ => ?_⟩⟩
          · rw [pk_lLE b2 b1] at q
            have e := bestF_no (less := fun k o => farN rule (tmA v j nf k) j < farN rule (tmA v j nf o) j) (n := m) (by show ¬ _ < _; omega)
            exact hw2 _ _ _ ⟨m + 1, by omega, nI_1 _, by rw [e], by rw [e]⟩ dec
          · rw [pk_lLE b2 b1] at q
            have e := bestF_yes (less := fun k o => farN rule (tmA v j nf k) j < farN rule (tmA v j nf o) j) (n := m) (by show _ < _; omega)
            exact hw2 _ _ _ ⟨m + 1, by omega, nI_1 _, by rw [e], by rw [e]⟩ dec
      · have hjn := nI_leN (by omega) (by omega) hlt
        have hin : vp_in (nI j) 4 := vp_in_nI (by omega) (by decide)
        have dec : na - (nI j + 1).toNatClampNeg < na - (nI j).toNatClampNeg := by
          rw [nI_1, cl_nI (by omega), cl_nI (by omega)]
          omega
        have hrn := FV_rng hV hnf hjn
        have hg := FV_rg hV hnf hjn
        have hB2 : rgB v na nf j = rgA v nf j := if_pos hjn
        have eD : (mxA v nf j - mnA v nf j).toInt64 = jZ ((mxA v nf j).toInt - (mnA v nf j).toInt) := by
          rw [hg.2.2, toInt64_jZ, iZ_toInt (by omega) (by omega)]
        refine y_greatest hV hnf hjn (y_least hV hnf hjn ?_)
        show ((mxA v nf j - mnA v nf j).toInt64 = (0 : Int64) → _) ∧ (¬ (mxA v nf j - mnA v nf j).toInt64 = (0 : Int64) → vp_in (nI j) 4 ∧ w _ (vp_updL b _ (mxA v nf j - mnA v nf j).toInt64))
        rw [eD, cl_nI (by omega), show (0 : Int64) = jZ 0 from rfl, jZ_inj (by omega) (by omega)]
        refine ⟨fun q => ⟨hin, hw _ _ ⟨j + 1, by omega, nI_1 j, fun a ha => ?_⟩ dec⟩, fun q => ⟨hin, hw _ _ ⟨j + 1, by omega, nI_1 j, fun a ha => ?_⟩ dec⟩⟩
        · by_cases y : a = j
          · subst y
            rw [updL_s, hB2]
            have : rgA v nf a = 1 := by
              unfold rgA
              omega
            rw [this]
            rfl
          · rw [updL_n y]
            exact hb a (by omega)
        · by_cases y : a = j
          · subst y
            rw [updL_s, hB2, ← jZ_nat]
            congr 1
            unfold rgA
            omega
          · rw [updL_n y]
            exact hb a (by omega)
  · exact inr (fun j hj e' => absurd e' (hr j hj)) (fun z => ⟨fun _ => hK _ _ _ _, fun z => absurd rfl z⟩)
end KN

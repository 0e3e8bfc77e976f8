/-! ===== plans and scores ===== -/
/-- the score of the numbers x for aim a -/
def Sc (costsM : Nat → Int32) (nc : Nat) (x : Nat → Int32) (a : Nat) : Int32 := sumN (fun c => costsM (8 * a + c)) x nc
def isP (nc nr na : Nat) (termsM rights costsM froms tos : Nat → Int32) (x : Nat → Int32) : Prop :=
  (∀ r, r < nr → sumN (fun c => termsM (8 * r + c)) x nc ≤ rights r) ∧ ∀ a, a < na → froms a ≤ Sc costsM nc x a ∧ Sc costsM nc x a ≤ tos a
/-- a lane: a number above -2048, 0 where there is no aim -/
def ln (v : Int32) : Nat := (v.toInt + 2048).toNat
def lnA (na : Nat) (v : Nat → Int32) : Nat → Nat := fun a => if a < na then ln (v a) else 0
theorem lnA_in {na : Nat} {v : Nat → Int32} {a : Nat} (h : a < na) : lnA na v a = ln (v a) := if_pos h
theorem lnA_out {na : Nat} {v : Nat → Int32} {a : Nat} (h : ¬ a < na) : lnA na v a = 0 := if_neg h
/-- numbers that fit a lane -/
def okS (na : Nat) (v : Nat → Int32) : Prop := ∀ a, a < na → -2000 ≤ (v a).toInt ∧ (v a).toInt ≤ 2000
theorem ln_bd {v : Int32} (h : -2000 ≤ v.toInt ∧ v.toInt ≤ 2000) : 48 ≤ ln v ∧ ln v ≤ 4048 := by
  unfold ln
  omega
theorem lnA_lt {na : Nat} {v : Nat → Int32} (h : okS na v) : ∀ a, a < 4 → lnA na v a < 16384 := fun a _ => by
  by_cases e : a < na
  · rw [lnA_in e]
    have := (ln_bd (h a e)).2
    omega
  · rw [lnA_out e]
    omega
theorem lnA_num {na : Nat} {v : Nat → Int32} (h : okS na v) {a : Nat} (ha : a < na) : iZ ((lnA na v a : Nat) - 2048 : Int) = v a := by
  rw [lnA_in ha]
  unfold ln
  have := h a ha
  rw [Int.toNat_of_nonneg (by omega), show (v a).toInt + 2048 - 2048 = (v a).toInt by omega, iZ_of]
theorem ln_le {u v : Int32} (hu : -2000 ≤ u.toInt ∧ u.toInt ≤ 2000) (hv : -2000 ≤ v.toInt ∧ v.toInt ≤ 2000) : ln u ≤ ln v ↔ u ≤ v := by
  rw [Int32.le_iff_toInt_le]
  unfold ln
  omega
theorem ln_eq {u v : Int32} (hu : -2000 ≤ u.toInt ∧ u.toInt ≤ 2000) (hv : -2000 ≤ v.toInt ∧ v.toInt ≤ 2000) : ln u = ln v ↔ u = v := by
  rw [← Int32.toInt_inj]
  unfold ln
  omega
/-- the packed score, by the first n aims -/
def pkS (v : Nat → Int32) : Nat → Nat
  | 0 => 0
  | a + 1 => pkS v a + ln (v a) * 2 ^ (48 - 16 * a)
theorem pkS_P4 {v : Nat → Int32} {na : Nat} (h : na ≤ 4) : pkS v na = P4 (lnA na v) := by
  unfold P4
  have hm : na = 0 ∨ na = 1 ∨ na = 2 ∨ na = 3 ∨ na = 4 := by omega
  rcases hm with e | e | e | e | e <;> subst e
  · rw [lnA_out (by omega), lnA_out (by omega), lnA_out (by omega), lnA_out (by omega)]
    simp only [pkS, Nat.zero_mul, Nat.add_zero]
  · rw [lnA_in (by omega), lnA_out (by omega), lnA_out (by omega), lnA_out (by omega)]
    simp only [pkS, Nat.reduceMul, Nat.reduceSub, Nat.reducePow]
    omega
  · rw [lnA_in (by omega), lnA_in (by omega), lnA_out (by omega), lnA_out (by omega)]
    simp only [pkS, Nat.reduceMul, Nat.reduceSub, Nat.reducePow]
    omega
  · rw [lnA_in (by omega), lnA_in (by omega), lnA_in (by omega), lnA_out (by omega)]
    simp only [pkS, Nat.reduceMul, Nat.reduceSub, Nat.reducePow]
    omega
  · rw [lnA_in (by omega), lnA_in (by omega), lnA_in (by omega), lnA_in (by omega)]
    simp only [pkS, Nat.reduceMul, Nat.reduceSub, Nat.reducePow]
    omega
theorem nI_leN {a b : Nat} (ha : a < 2147483648) (hb : b < 2147483648) (h : ¬ nI a ≤ nI b) : b < a := by
  rcases Nat.lt_or_ge b a with q | q
  · exact q
  · exact absurd ((nI_leI ha hb).mpr q) h
theorem i_nle {a b : Int32} (h : ¬ a ≤ b) : b < a := by
  rw [Int32.le_iff_toInt_le] at h
  rw [Int32.lt_iff_toInt_lt]
  omega
theorem i_nlt {a b : Int32} (h : ¬ a < b) : b ≤ a := by
  rw [Int32.lt_iff_toInt_lt] at h
  rw [Int32.le_iff_toInt_le]
  omega
theorem i_lt_nle {a b : Int32} (h : a < b) : ¬ b ≤ a := by
  rw [Int32.lt_iff_toInt_lt] at h
  rw [Int32.le_iff_toInt_le]
  omega
theorem i_le_nlt {a b : Int32} (h : a ≤ b) : ¬ b < a := by
  rw [Int32.le_iff_toInt_le] at h
  rw [Int32.lt_iff_toInt_lt]
  omega
/-- the class's score of a point -/
theorem w_scoreOf {nc nr na : Nat} (hc : nc ≤ 8) (hr : nr ≤ 8) (ha : na ≤ 4) {terms costs : Nat → Nat → Int32} {right fr to termsM rights costsM froms tos x : Nat → Int32}
    (eT : ∀ r, r < nr → ∀ c, c < nc → terms r c = termsM (8 * r + c)) (eR : ∀ r, r < nr → right r = rights r) (eC : ∀ a, a < na → ∀ c, c < nc → costs a c = costsM (8 * a + c)) (eF : ∀ a, a < na → fr a = froms a ∧ to a = tos a ∧ -2000 ≤ (froms a).toInt ∧ (tos a).toInt ≤ 2000)
    {post : Int64 → Prop} (h1 : isP nc nr na termsM rights costsM froms tos x → okS na (Sc costsM nc x) → post (lN (P4 (lnA na (Sc costsM nc x))))) (h0 : ¬ isP nc nr na termsM rights costsM froms tos x → post (-1)) :
    wp_X5_scoreOf x (nI na) (nI nc) costs fr right (nI nr) terms to post := by
  unfold wp_X5_scoreOf
  refine Lq1_inv (fun i => ∃ j : Nat, j ≤ nr ∧ i = nI j ∧ ∀ r, r < j → sumN (fun c => termsM (8 * r + c)) x nc ≤ rights r) (fun i => nr - i.toNatClampNeg) ?_ _ ⟨0, Nat.zero_le _, rfl, fun r h => absurd h (Nat.not_lt_zero _)⟩
  rintro i ⟨j, hj, rfl, hrow⟩ w hw
  unfold b_X5_scoreOf_2
  refine ⟨fun hle => ?_, fun hlt => ?_⟩
  · have : nr ≤ j := (nI_leI (by omega) (by omega)).mp hle
    have : j = nr := by omega
    subst this
    refine Lq2_inv (fun s i => ∃ k : Nat, k ≤ na ∧ i = nI k ∧ s = lN (pkS (Sc costsM nc x) k) ∧ ∀ a, a < k → froms a ≤ Sc costsM nc x a ∧ Sc costsM nc x a ≤ tos a) (fun _ i => na - i.toNatClampNeg) ?_ _ _ ⟨0, Nat.zero_le _, rfl, rfl, fun r h => absurd h (Nat.not_lt_zero _)⟩
    rintro s i ⟨k, hk, rfl, rfl, hok⟩ w2 hw2
    unfold b_X5_scoreOf_45
    refine ⟨fun hle => ?_, fun hlt => ?_⟩
    · have : na ≤ k := (nI_leI (by omega) (by omega)).mp hle
      have : k = na := by omega
      subst this
      rw [pkS_P4 ha]
      refine h1 ⟨hrow, hok⟩ (fun a h => ?_)
      obtain ⟨-, -, b1, b2⟩ := eF a h
      obtain ⟨c1, c2⟩ := hok a h
      rw [Int32.le_iff_toInt_le] at c1 c2
      omega
    · have hkn := nI_leN (by omega) (by omega) hlt
      have hin : vp_in (nI k) 4 := vp_in_nI (by omega) (by decide)
      rw [cl_nI (by omega)]
      refine ⟨hin, w_sum hc ?_⟩
      have es : sumN (costs k) x nc = Sc costsM nc x k := sumN_congr nc (fun c h => ⟨eC k hkn c h, rfl⟩)
      obtain ⟨f1, f2, f3, f4⟩ := eF k hkn
      rw [es, f1, f2]
      refine ⟨hin, fun hq => ?_, fun hq => ⟨hin, fun hq2 => ?_, fun hq2 => ?_⟩⟩
      · exact h0 (fun z => absurd (z.2 k hkn).1 (i_lt_nle hq))
      · have b1 := i_nlt hq
        have c1 := b1
        have c2 := hq2
        rw [Int32.le_iff_toInt_le] at c1 c2
        rw [← iZ_of (Sc costsM nc x k)]
        refine w_lane (by omega) (by omega) (by omega) (hw2 _ _ ⟨k + 1, by omega, nI_1 k, ?_, ?_⟩ ?_)
        · rw [lN_add]
          rfl
        · intro a h
          rcases Nat.lt_or_ge a k with q | q
          · exact hok a q
          · have : a = k := by omega
            subst this
            exact ⟨b1, hq2⟩
        · rw [nI_1, cl_nI (by omega), cl_nI (by omega)]
          omega
      · exact h0 (fun z => absurd (z.2 k hkn).2 hq2)
  · have hjn := nI_leN (by omega) (by omega) hlt
    have hin : vp_in (nI j) 8 := vp_in_nI (by omega) (by decide)
    rw [cl_nI (by omega)]
    refine ⟨hin, w_sum hc ?_⟩
    have es : sumN (terms j) x nc = sumN (fun c => termsM (8 * j + c)) x nc := sumN_congr nc (fun c h => ⟨eT j hjn c h, rfl⟩)
    rw [es, eR j hjn]
    refine ⟨hin, fun hq => hw _ ⟨j + 1, by omega, nI_1 j, ?_⟩ ?_, fun hq => h0 (fun z => hq (z.1 j hjn))⟩
    · intro r h
      rcases Nat.lt_or_ge r j with q | q
      · exact hrow r q
      · have : r = j := by omega
        subst this
        exact hq
    · rw [nI_1, cl_nI (by omega), cl_nI (by omega)]
      omega

/-! ===== the model's isPlan ===== -/
/-- a flag of 0 and 1 that tells a proposition -/
def fl (v : Int32) (P : Prop) : Prop := (P ∧ v = 1) ∨ (¬ P ∧ v = 0)
theorem fl_1 {P : Prop} (h : P) : fl 1 P := Or.inl ⟨h, rfl⟩
theorem fl_0 {P : Prop} (h : ¬ P) : fl 0 P := Or.inr ⟨h, rfl⟩
theorem fl_bz {v : Int32} {P : Prop} (h : fl v P) : bz v := by
  rcases h with ⟨-, e⟩ | ⟨-, e⟩ <;> subst e <;> rfl
theorem fl_yes {v : Int32} {P : Prop} (h : fl v P) (e : ¬ v = 0) : P ∧ v = 1 := by
  rcases h with h | h
  · exact h
  · exact absurd h.2 e
theorem fl_no {v : Int32} {P : Prop} (h : fl v P) (e : v = 0) : ¬ P := by
  rcases h with h | h
  · rw [h.2] at e
    exact absurd e (by decide)
  · exact h.1
theorem fl_iff {v : Int32} {P P' : Prop} (h : fl v P) (e : P ↔ P') : fl v P' := by
  rcases h with ⟨h, e'⟩ | ⟨h, e'⟩
  · exact Or.inl ⟨e.mp h, e'⟩
  · exact Or.inr ⟨fun z => h (e.mpr z), e'⟩
theorem all_succ {P : Nat → Prop} {j : Nat} : (∀ c, c < j + 1 → P c) ↔ (∀ c, c < j → P c) ∧ P j := by
  constructor
  · exact fun h => ⟨fun c hc => h c (by omega), h j (by omega)⟩
  · rintro ⟨h1, h2⟩ c hc
    rcases Nat.lt_or_ge c j with q | q
    · exact h1 c q
    · have : c = j := by omega
      subst this
      exact h2
theorem upd_s {f : Nat → Int32} {k : Nat} {x : Int32} : upd f k x k = x := pk_us
theorem upd_n {f : Nat → Int32} {k j : Nat} {x : Int32} (h : j ≠ k) : upd f k x j = f j := pk_un h
/-- numbers within their columns' bounds -/
def inB (lo hi x : Nat → Int32) (n : Nat) : Prop := ∀ c, c < n → (lo c).toInt ≤ (x c).toInt ∧ (x c).toInt ≤ (hi c).toInt
theorem ix8 {r c : Nat} : (8 : Int32) * nI r + nI c = nI (8 * r + c) := by
  rw [show (8 : Int32) = nI 8 from rfl, pk_mul, nI_add]
theorem w_isPlan {nc nr na : Nat} (hc : nc ≤ 8) (hr : nr ≤ 8) (ha : na ≤ 4) {lo hi termsM rights costsM froms tos x score : Nat → Int32} {post : Int32 → (Nat → Int32) → Prop}
    (h : ∀ (v : Int32) (sc : Nat → Int32), fl v (inB lo hi x nc ∧ isP nc nr na termsM rights costsM froms tos x) → (∀ a, a < na → sc a = Sc costsM nc x a) → (∀ a, na ≤ a → sc a = score a) → post v sc) :
    wp_X7_isPlan (nI na) (nI nc) costsM froms hi lo x rights (nI nr) score termsM tos post := by
  unfold wp_X7_isPlan
  refine Lq2_inv (fun v i => ∃ j : Nat, j ≤ nc ∧ i = nI j ∧ fl v (inB lo hi x j)) (fun _ i => nc - i.toNatClampNeg) ?_ _ _ ⟨0, Nat.zero_le _, rfl, fl_1 (fun c h => absurd h (Nat.not_lt_zero _))⟩
  rintro v1 i ⟨j, hj, rfl, hv1⟩ w hw
  unfold b_X7_isPlan_4
  refine ⟨fun hle => ?_, fun hlt => ?_⟩
  · have : nc ≤ j := (nI_leI (by omega) (by omega)).mp hle
    have : j = nc := by omega
    subst this
    -- the rows
    refine Lq2_inv (fun v i => ∃ k : Nat, k ≤ nr ∧ i = nI k ∧ fl v (inB lo hi x j ∧ ∀ r, r < k → sumN (fun c => termsM (8 * r + c)) x j ≤ rights r)) (fun _ i => nr - i.toNatClampNeg) ?_ _ _ ⟨0, Nat.zero_le _, rfl, fl_iff hv1 ⟨fun z => ⟨z, fun r h => absurd h (Nat.not_lt_zero _)⟩, fun z => z.1⟩⟩
    rintro v2 i ⟨k, hk, rfl, hv2⟩ w2 hw2
    unfold b_X7_isPlan_57
    refine ⟨fun hle => ?_, fun hlt => ?_⟩
    · have : nr ≤ k := (nI_leI (by omega) (by omega)).mp hle
      have : k = nr := by omega
      subst this
      -- the aims
      refine Lq3_inv (fun v i sc => ∃ m : Nat, m ≤ na ∧ i = nI m ∧ fl v ((inB lo hi x j ∧ ∀ r, r < k → sumN (fun c => termsM (8 * r + c)) x j ≤ rights r) ∧ ∀ a, a < m → froms a ≤ Sc costsM j x a ∧ Sc costsM j x a ≤ tos a) ∧ (∀ a, a < m → sc a = Sc costsM j x a) ∧ ∀ a, m ≤ a → sc a = score a) (fun _ i _ => na - i.toNatClampNeg) ?_ _ _ _ ⟨0, Nat.zero_le _, rfl, fl_iff hv2 ⟨fun z => ⟨z, fun r h => absurd h (Nat.not_lt_zero _)⟩, fun z => z.1⟩, fun r h => absurd h (Nat.not_lt_zero _), fun _ _ => rfl⟩
      rintro v3 i sc ⟨m, hm, rfl, hv3, hs1, hs2⟩ w3 hw3
      unfold b_X7_isPlan_136
      refine ⟨fun hle => ?_, fun hlt => ?_⟩
      · have : na ≤ m := (nI_leI (by omega) (by omega)).mp hle
        have : m = na := by omega
        subst this
        exact ⟨fl_bz hv3, h v3 sc (fl_iff hv3 ⟨fun z => ⟨z.1.1, z.1.2, z.2⟩, fun z => ⟨⟨z.1, z.2.1⟩, z.2.2⟩⟩) hs1 hs2⟩
      · have hmn := nI_leN (by omega) (by omega) hlt
        have hin : vp_in (nI m) 4 := vp_in_nI (by omega) (by decide)
        rw [cl_nI (by omega)]
        refine ⟨hin, ?_⟩
        refine Lq2_inv (fun i s2 => ∃ c : Nat, c ≤ j ∧ i = nI c ∧ s2 m = sumN (fun c => costsM (8 * m + c)) x c ∧ ∀ a, a ≠ m → s2 a = sc a) (fun i _ => j - i.toNatClampNeg) ?_ _ _ ⟨0, Nat.zero_le _, rfl, upd_s, fun a q => upd_n q⟩
        rintro i s2 ⟨c, hcj, rfl, e1, e2⟩ w4 hw4
        unfold b_X7_isPlan_153
        refine ⟨fun hle => ?_, fun hlt => ?_⟩
        · have : j ≤ c := (nI_leI (by omega) (by omega)).mp hle
          have : c = j := by omega
          subst this
          have eS : s2 m = Sc costsM c x m := e1
          have k1 : ∀ a, a < m + 1 → s2 a = Sc costsM c x a := fun a q => by
            by_cases q2 : a = m
            · subst q2
              exact eS
            · rw [e2 a q2]
              exact hs1 a (by omega)
          have k2 : ∀ a, m + 1 ≤ a → s2 a = score a := fun a q => by
            rw [e2 a (by omega)]
            exact hs2 a (by omega)
          have dec : na - (nI m + 1).toNatClampNeg < na - (nI m).toNatClampNeg := by
            rw [nI_1, cl_nI (by omega), cl_nI (by omega)]
            omega
          refine ⟨fun z => ?_, fun z => ⟨hin, hin, hin, ?_⟩⟩
          · refine hw3 _ _ _ ⟨m + 1, by omega, nI_1 m, fl_0 (fun y => fl_no hv3 z ⟨y.1, fun a q => y.2 a (by omega)⟩), k1, k2⟩ dec
          · obtain ⟨y, -⟩ := fl_yes hv3 z
            rw [eS]
            refine w_inI (fun a1 a2 => ⟨fun q => absurd q (by decide), fun _ => ?_⟩) (fun a1 => ⟨fun _ => ?_, fun q => absurd rfl q⟩)
            · refine hw3 _ _ _ ⟨m + 1, by omega, nI_1 m, fl_1 ⟨y.1, all_succ.mpr ⟨y.2, ?_⟩⟩, k1, k2⟩ dec
              rw [Int32.le_iff_toInt_le, Int32.le_iff_toInt_le]
              exact ⟨a1, a2⟩
            · refine hw3 _ _ _ ⟨m + 1, by omega, nI_1 m, fl_0 (fun z2 => a1 ?_), k1, k2⟩ dec
              have z3 := (all_succ.mp z2.2).2
              rw [Int32.le_iff_toInt_le, Int32.le_iff_toInt_le] at z3
              exact z3
        · have hcn := nI_leN (by omega) (by omega) hlt
          have hin8 : vp_in (nI c) 8 := vp_in_nI (by omega) (by decide)
          rw [ix8, cl_nI (by omega), cl_nI (by omega), cl_nI (by omega)]
          refine ⟨hin, vp_in_nI (by omega) (by decide), hin8, hin, hw4 _ _ ⟨c + 1, by omega, nI_1 c, ?_, fun a q => ?_⟩ ?_⟩
          · rw [upd_s, e1]
            rfl
          · rw [upd_n q]
            exact e2 a q
          · rw [nI_1, cl_nI (by omega), cl_nI (by omega)]
            omega
    · have hkn := nI_leN (by omega) (by omega) hlt
      have hin : vp_in (nI k) 8 := vp_in_nI (by omega) (by decide)
      refine Lq2_inv (fun s i => ∃ c : Nat, c ≤ j ∧ i = nI c ∧ s = sumN (fun c => termsM (8 * k + c)) x c) (fun _ i => j - i.toNatClampNeg) ?_ _ _ ⟨0, Nat.zero_le _, rfl, rfl⟩
      rintro s i ⟨c, hcj, rfl, rfl⟩ w4 hw4
      unfold b_X7_isPlan_70
      refine ⟨fun hle => ?_, fun hlt => ?_⟩
      · have : j ≤ c := (nI_leI (by omega) (by omega)).mp hle
        have : c = j := by omega
        subst this
        have dec : nr - (nI k + 1).toNatClampNeg < nr - (nI k).toNatClampNeg := by
          rw [nI_1, cl_nI (by omega), cl_nI (by omega)]
          omega
        rw [cl_nI (by omega)]
        refine ⟨fun z => ?_, fun z => ⟨hin, fun q => ?_, fun q => ?_⟩⟩
        · exact hw2 _ _ ⟨k + 1, by omega, nI_1 k, fl_0 (fun y => fl_no hv2 z ⟨y.1, fun a q => y.2 a (by omega)⟩)⟩ dec
        · exact hw2 _ _ ⟨k + 1, by omega, nI_1 k, fl_0 (fun y => i_lt_nle q (y.2 k (by omega)))⟩ dec
        · obtain ⟨y, -⟩ := fl_yes hv2 z
          exact hw2 _ _ ⟨k + 1, by omega, nI_1 k, fl_1 ⟨y.1, all_succ.mpr ⟨y.2, i_nlt q⟩⟩⟩ dec
      · have hcn := nI_leN (by omega) (by omega) hlt
        have hin8 : vp_in (nI c) 8 := vp_in_nI (by omega) (by decide)
        rw [ix8, cl_nI (by omega), cl_nI (by omega)]
        refine ⟨vp_in_nI (by omega) (by decide), hin8, hw4 _ _ ⟨c + 1, by omega, nI_1 c, rfl⟩ ?_⟩
        rw [nI_1, cl_nI (by omega), cl_nI (by omega)]
        omega
  · have hjn := nI_leN (by omega) (by omega) hlt
    have hin : vp_in (nI j) 8 := vp_in_nI (by omega) (by decide)
    have dec : nc - (nI j + 1).toNatClampNeg < nc - (nI j).toNatClampNeg := by
      rw [nI_1, cl_nI (by omega), cl_nI (by omega)]
      omega
    refine ⟨fun z => ?_, fun z => ⟨hin, hin, hin, ?_⟩⟩
    · exact hw _ _ ⟨j + 1, by omega, nI_1 j, fl_0 (fun y => fl_no hv1 z (fun a q => y a (by omega)))⟩ dec
    · obtain ⟨y, -⟩ := fl_yes hv1 z
      rw [cl_nI (by omega)]
      refine w_inI (fun a1 a2 => ⟨fun q => absurd q (by decide), fun _ => ?_⟩) (fun a1 => ⟨fun _ => ?_, fun q => absurd rfl q⟩)
      · exact hw _ _ ⟨j + 1, by omega, nI_1 j, fl_1 (all_succ.mpr ⟨y, a1, a2⟩)⟩ dec
      · exact hw _ _ ⟨j + 1, by omega, nI_1 j, fl_0 (fun z2 => a1 (all_succ.mp z2).2)⟩ dec

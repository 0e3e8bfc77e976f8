/-! ===== the model's run ===== -/
/-- the model's arrays hold the plans among the first g points -/
def MP (na : Nat) (Pl : Nat → Prop) (S : Nat → Nat → Int32) (g : Nat) (PP PS : Nat → Int32) : Prop := ∀ p, p < cP Pl g → PP p = PPf Pl p ∧ ∀ a, a < na → PS (4 * p + a) = S (pn Pl p) a
theorem MP_pL {na : Nat} {Pl : Nat → Prop} {S : Nat → Nat → Int32} {g : Nat} {PP PS : Nat → Int32} (h : MP na Pl S g PP PS) : ∀ p, p < cP Pl g → pL na PS p = Lf na Pl S p := fun p hp => by
  funext a
  unfold pL Lf
  by_cases ha : a < na
  · rw [lnA_in ha, lnA_in ha, (h p hp).2 a ha]
  · rw [lnA_out ha, lnA_out ha]
/-- the model's front arrays, in the words of both -/
def MG (na : Nat) (Pl : Nat → Prop) (S : Nat → Nat → Int32) (g nf : Nat) (fp : Nat → Nat) (FP FT : Nat → Int32) : Prop := ∀ k, k < nf → FP k = nI (fp k) ∧ FT k = nI (cnt (Lf na Pl S) (P4 (Lf na Pl S (fp k))) (cP Pl g))
section RUNM
variable {nc nr na : Nat} {low high right : Nat → Int32} {terms : Nat → Nat → Int32} {fr to : Nat → Int32} {costs : Nat → Nat → Int32} {lows highs rights termsM costsM froms tos : Nat → Int32}
theorem w_runX7 (hs : SU nc nr na low high right terms fr to costs lows highs rights termsM costsM froms tos) {Pl : Nat → Prop} {S : Nat → Nat → Int32} (hPl : Pl = PlS nc nr na lows highs rights termsM costsM froms tos) (hS : S = ScS nc lows highs costsM) {g P : Nat} (hP : P = wP lows highs nc) (hg : g ≤ P) {x : Int32} {front picks : Int32} {FP FT PP PS point score : Nat → Int32} (hM : MP na Pl S g PP PS)
    {post : Int32 → Int32 → (Nat → Int32) → (Nat → Int32) → Int32 → Int32 → (Nat → Int32) → (Nat → Int32) → Int32 → (Nat → Int32) → (Nat → Int32) → Prop}
    (hO : ¬ (0 ≤ x.toInt ∧ x.toInt ≤ 2000) → post (-1000001) front FP FT (nI g) picks PP PS (nI (cP Pl g)) point score) (hT : 0 ≤ x.toInt → x.toInt ≤ 2000 → na = 0 → post (-1000002) front FP FT (nI g) picks PP PS (nI (cP Pl g)) point score)
    (h : ∀ (k nf : Nat) (fp : Nat → Nat) (FP' FT' PP' PS' pt sc : Nat → Int32), k ≤ 2000 → x = nI k → 0 < na → FS (cP Pl (g + min k (P - g))) (Lf na Pl S) nf fp → MG na Pl S (g + min k (P - g)) nf fp FP' FT' → MP na Pl S (g + min k (P - g)) PP' PS' → post (nI nf) (nI nf) FP' FT' (nI (g + min k (P - g))) 0 PP' PS' (nI (cP Pl (g + min k (P - g)))) pt sc) :
    wp_X7_run (nI na) (nI nc) costsM froms front FP FT (nI g) highs lows picks PP PS (nI (cP Pl g)) point rights (nI nr) score termsM tos x post := by
  have hs' := hs
  obtain ⟨s1, s2, s3, s4, s5, s6, s7, s8, s9, s10, s11, s12⟩ := hs
  unfold wp_X7_run
  refine w_inI (a := 0) (b := 2000) (fun q1 q2 => ⟨fun z => absurd z (by decide), fun _ => ⟨fun q3 => ?_, fun q3 => ?_⟩⟩) (fun q => ⟨fun _ => hO q, fun z => absurd rfl z⟩)
  · exact hT q1 q2 ((nI_eq (b := 0) (by omega) (by omega)).mp q3)
  · have hna : 0 < na := by
      rcases Nat.lt_or_ge 0 na with z | z
      · exact z
      · have : na = 0 := by omega
        subst this
        exact absurd rfl q3
    have hx0 : ¬ x < 0 := fun z => by
      rw [Int32.lt_iff_toInt_lt] at z
      have : Int32.toInt 0 = 0 := rfl
      omega
    obtain ⟨k, hk, rfl⟩ := nI_of hx0
    have hk2 : k ≤ 2000 := by
      rw [nI_toInt hk] at q2
      have : Int32.toInt 2000 = 2000 := rfl
      omega
    refine w_points s1 s4 ?_
    rw [← hP]
    have hP2 : P ≤ 2000 := by omega
    refine Lq7_inv (fun v gg pp ps pl pt sc => ∃ (i j : Nat), i ≤ k ∧ j = g + i ∧ j ≤ P ∧ v = nI i ∧ gg = nI j ∧ pl = nI (cP Pl j) ∧ MP na Pl S j pp ps) (fun v _ _ _ _ _ _ => 2000 - v.toNatClampNeg) ?_ _ _ _ _ _ _ _ ⟨0, g, Nat.zero_le _, rfl, hg, rfl, rfl, rfl, hM⟩
    rintro v gg pp ps pl pt sc ⟨i, j, hi, hj, hjP, rfl, rfl, rfl, hm⟩ w hw
    have fin : j = g + min k (P - g) → wp_X7_findFront (nI na) front FP FT ps (nI (cP Pl j)) (fun f1 f2 f3 => post f1 f1 f2 f3 (nI j) (0 : Int32) pp ps (nI (cP Pl j)) pt sc) := fun e => by
      have hcl := cP_le (Pl := Pl) j
      have hok : okPS na (cP Pl j) ps := fun p hp a ha => by
        have h1 := (hm p hp).2 a ha
        show -2000 ≤ (ps (4 * p + a)).toInt ∧ (ps (4 * p + a)).toInt ≤ 2000
        rw [h1, hS]
        rw [hPl] at hp ⊢
        exact SU_lanes hs' hp a ha
      refine w_findFront s3 (by omega) hok (fun nf fp F T h1 h2 => ?_)
      have eL := MP_pL hm
      have h3 := FS_congr eL h1
      subst e
      refine h k nf fp F T pp ps pt sc hk2 rfl hna h3 (fun k' hk' => ?_) hm
      obtain ⟨b1, b2⟩ := h2 k' hk'
      refine ⟨b1, ?_⟩
      rw [b2, eL _ (h3.1 k' hk'), cnt_congr _ eL]
    unfold b_X7_run_37
    refine ⟨fun hle => fin ?_, fun hlt => ⟨fun hle => fin ?_, fun hlt2 => ?_⟩⟩
    · have : k ≤ i := (nI_leI (by omega) (by omega)).mp hle
      omega
    · have : P ≤ j := (nI_leI (by omega) (by omega)).mp hle
      omega
    · have hik := nI_leN (by omega) (by omega) hlt
      have hjp := nI_leN (by omega) (by omega) hlt2
      have dec : 2000 - (nI i + 1).toNatClampNeg < 2000 - (nI i).toNatClampNeg := by
        rw [nI_1, cl_nI (by omega), cl_nI (by omega)]
        omega
      have hcl := cP_le (Pl := Pl) j
      refine w_toPoint s1 s4 (by omega) ?_
      have ex : ∀ c, c < nc → fz lows highs nc j pt c = Xn nc lows highs j c := fun c hc => fz_in nc j _ _ c hc
      refine w_isPlan s1 s2 s3 (fun r sc2 hf hs1 hs2 => ?_)
      have hin : inB lows highs (fz lows highs nc j pt) nc := fun c hc => fz_bd nc j pt s4 c hc
      refine ⟨fun z => ?_, fun z => ?_⟩
      · have hpl : ¬ Pl j := fun y => fl_no hf z ⟨hin, by rw [hPl] at y; exact (isP_congr ex).mpr y⟩
        exact hw _ _ _ _ _ _ _ ⟨i + 1, j + 1, by omega, by omega, by omega, nI_1 i, nI_1 j, by rw [cP_no hpl], fun p hp => hm p (by rw [cP_no hpl] at hp; exact hp)⟩ dec
      · have hpl : Pl j := by
          rw [hPl]
          exact (isP_congr ex).mp (fl_yes hf z).1.2
        have hvn : vp_in (nI (cP Pl j)) 2000 := vp_in_nI (by omega) (by decide)
        refine ⟨hvn, ?_⟩
        refine Lq2_inv (fun a ps2 => ∃ b : Nat, b ≤ na ∧ a = nI b ∧ (∀ a', a' < b → ps2 (4 * cP Pl j + a') = S j a') ∧ ∀ q, q < 4 * cP Pl j → ps2 q = ps q) (fun a _ => na - a.toNatClampNeg) ?_ _ _ ⟨0, Nat.zero_le _, rfl, fun a' h => absurd h (Nat.not_lt_zero _), fun _ _ => rfl⟩
        rintro a ps2 ⟨b, hb, rfl, e1, e2⟩ w2 hw2
        unfold b_X7_run_81
        refine ⟨fun hle => ?_, fun hlt3 => ?_⟩
        · have : na ≤ b := (nI_leI (by omega) (by omega)).mp hle
          have : b = na := by omega
          subst this
          refine hw _ _ _ _ _ _ _ ⟨i + 1, j + 1, by omega, by omega, by omega, nI_1 i, nI_1 j, by rw [cP_yes hpl, nI_1], fun p hp => ?_⟩ dec
          rw [cP_yes hpl] at hp
          rw [cl_nI (by omega)]
          rcases Nat.lt_or_ge p (cP Pl j) with y | y
          · rw [upd_n (by omega)]
            refine ⟨(hm p y).1, fun a' ha' => ?_⟩
            rw [e2 _ (by omega)]
            exact (hm p y).2 a' ha'
          · have : p = cP Pl j := by omega
            subst this
            rw [upd_s, pn_of hpl]
            refine ⟨?_, e1⟩
            unfold PPf
            rw [pn_of hpl]
        · have hbn := nI_leN (by omega) (by omega) hlt3
          rw [ix4, cl_nI (by omega), cl_nI (by omega)]
          refine ⟨vp_in_nI (by omega) (by decide), vp_in_nI (by omega) (by decide), hw2 _ _ ⟨b + 1, by omega, nI_1 b, fun a' ha' => ?_, fun q hq => ?_⟩ ?_⟩
          · rcases Nat.lt_or_ge a' b with y | y
            · rw [upd_n (by omega)]
              exact e1 a' y
            · have : a' = b := by omega
              subst this
              rw [upd_s, hs1 a' hbn, hS]
              exact congrFun (Sc_congr ex) a'
          · rw [upd_n (by omega)]
            exact e2 q hq
          · rw [nI_1, cl_nI (by omega), cl_nI (by omega)]
            omega
end RUNM

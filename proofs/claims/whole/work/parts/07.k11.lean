abbrev rm_X7_near : Room := { frames := 2, cells := 0, slots := 0, locals := 44 }
set_option maxHeartbeats 4000000 in
set_option maxRecDepth 100000 in
theorem k_X7_near (l : Launch) (dC : Nat → ClassId) (dI : Nat → Nat → Nat) (cI cJ cZ cG : ClassId) (sz : Nat) (a_this a_this_lows a_this_highs a_this_rights a_this_terms a_this_costs a_this_froms a_this_tos a_this_planPoint a_this_planScore a_this_frontPlan a_this_frontTies a_this_pick a_this_end a_this_point a_this_score a_this_by a_this_four a_this_isNear a_this_number a_this_numbers a_this_place a_this_was : Nat) (c_this_aims : Int32) (c_this_columns : Int32) (c_this_front : Int32) (c_this_frontPlan : Nat → Int32) (c_this_gone : Int32) (c_this_hasClimbed : Int32) (c_this_picks : Int32) (c_this_planScore : Nat → Int32) (c_this_plans : Int32) (c_this_rows : Int32) (x1 : Int32) (x2 : Int32) (x3 : Int32) (post : Int32 → Prop) (hw : wp_X7_near c_this_aims c_this_frontPlan c_this_planScore x1 x2 x3 post) : MetI l yX7_near wsX7_near rm_X7_near (dC, dI) cI cJ cZ cG [.ref a_this, .int x1, .int x2, .int x3] sz [(a_this, .inr (6, [.int c_this_columns, .int c_this_rows, .int c_this_aims, .ref a_this_lows, .ref a_this_highs, .ref a_this_rights, .ref a_this_terms, .ref a_this_costs, .ref a_this_froms, .ref a_this_tos, .int c_this_gone, .int c_this_plans, .ref a_this_planPoint, .ref a_this_planScore, .int c_this_front, .ref a_this_frontPlan, .ref a_this_frontTies, .int c_this_picks, .ref a_this_pick, .int c_this_hasClimbed, .ref a_this_end, .ref a_this_point, .ref a_this_score, .ref a_this_by, .ref a_this_four, .ref a_this_isNear, .ref a_this_number, .ref a_this_numbers, .ref a_this_place, .ref a_this_was])), (a_this_frontPlan, .inl (cI, 2000, .inl c_this_frontPlan)), (a_this_planScore, .inl (cI, 8000, .inl c_this_planScore))] (fun (r : Int32) (u : Unit) => post r) (fun u => [(a_this, .inr (6, [.int c_this_columns, .int c_this_rows, .int c_this_aims, .ref a_this_lows, .ref a_this_highs, .ref a_this_rights, .ref a_this_terms, .ref a_this_costs, .ref a_this_froms, .ref a_this_tos, .int c_this_gone, .int c_this_plans, .ref a_this_planPoint, .ref a_this_planScore, .int c_this_front, .ref a_this_frontPlan, .ref a_this_frontTies, .int c_this_picks, .ref a_this_pick, .int c_this_hasClimbed, .ref a_this_end, .ref a_this_point, .ref a_this_score, .ref a_this_by, .ref a_this_four, .ref a_this_isNear, .ref a_this_number, .ref a_this_numbers, .ref a_this_place, .ref a_this_was])), (a_this_frontPlan, .inl (cI, 2000, .inl c_this_frontPlan)), (a_this_planScore, .inl (cI, 8000, .inl c_this_planScore))]) := by
  refine met_i (ty := .boolean) (Or.inr rfl) (cc := cX7_near) (maxL := 6) (by decide) rfl (Nat.le_of_ble_eq_true rfl) ?_
  intro p e s m args below meth c A Q H locs ls K hG hl hret
  have hl : lv_has ls 6 [(0, .ref a_this), (1, .int x1), (2, .int x2), (3, .int x3)] := hl
  have hin_RX7 : ∀ w ∈ u_ws RX7 TX7 30, w ∈ wsX7_near := by decide +kernel
  unfold wp_X7_near at hw
  refine lv_iconst (v := 1) K.1 K.2.1 dX7_near_0 (by decide) ?_
  refine lv_istore (lv' := [(4, .int (1 : Int32)), (0, .ref a_this), (1, .int x1), (2, .int x2), (3, .int x3)]) K.1 K.2.1 dX7_near_1 hl (by decide) rfl (fun ls hl => ?_)
  refine lv_iconst (v := 0) K.1 K.2.1 dX7_near_3 (by decide) ?_
  refine lv_istore (lv' := [(5, .int (0 : Int32)), (4, .int (1 : Int32)), (0, .ref a_this), (1, .int x1), (2, .int x2), (3, .int x3)]) K.1 K.2.1 dX7_near_4 hl (by decide) rfl (fun ls hl => ?_)
  obtain ⟨kx_6, hkx_6, n_6, hw⟩ := Lx1_2_abs hw
  have hX_6 : ∀ (v4_6e : Int32) (H : Heap) (locs : List Loc) (ls : Array Slot), kx_6 v4_6e → HW (dC, dI) A s.heap [(a_this, .inr (6, [.int c_this_columns, .int c_this_rows, .int c_this_aims, .ref a_this_lows, .ref a_this_highs, .ref a_this_rights, .ref a_this_terms, .ref a_this_costs, .ref a_this_froms, .ref a_this_tos, .int c_this_gone, .int c_this_plans, .ref a_this_planPoint, .ref a_this_planScore, .int c_this_front, .ref a_this_frontPlan, .ref a_this_frontTies, .int c_this_picks, .ref a_this_pick, .int c_this_hasClimbed, .ref a_this_end, .ref a_this_point, .ref a_this_score, .ref a_this_by, .ref a_this_four, .ref a_this_isNear, .ref a_this_number, .ref a_this_numbers, .ref a_this_place, .ref a_this_was])), (a_this_frontPlan, .inl (cI, 2000, .inl c_this_frontPlan)), (a_this_planScore, .inl (cI, 8000, .inl c_this_planScore))] H locs → lv_has ls 6 [(4, .int v4_6e)] → W p l e rm_X7_near s m args below meth c H locs 0 0 Q (F0 m 52 ls []) := by
    intro v4_6e H locs ls hw hG hl
    have hw := hkx_6 _ hw
    refine lv_iload K.1 K.2.1 dX7_near_52 (lv_at hl 0 rfl) ?_
    exact hret v4_6e () H locs _ ls dX7_near_54 hw.1 hw.2 hG
  have hL_6 : ∀ (n : Nat), ∀ (v4_6 : Int32) (v5_6 : Int32) (H : Heap) (locs : List Loc) (ls : Array Slot), Lp2 (b_X7_near_6 c_this_aims c_this_frontPlan c_this_planScore x1 x2 x3 kx_6) n v4_6 v5_6 → HW (dC, dI) A s.heap [(a_this, .inr (6, [.int c_this_columns, .int c_this_rows, .int c_this_aims, .ref a_this_lows, .ref a_this_highs, .ref a_this_rights, .ref a_this_terms, .ref a_this_costs, .ref a_this_froms, .ref a_this_tos, .int c_this_gone, .int c_this_plans, .ref a_this_planPoint, .ref a_this_planScore, .int c_this_front, .ref a_this_frontPlan, .ref a_this_frontTies, .int c_this_picks, .ref a_this_pick, .int c_this_hasClimbed, .ref a_this_end, .ref a_this_point, .ref a_this_score, .ref a_this_by, .ref a_this_four, .ref a_this_isNear, .ref a_this_number, .ref a_this_numbers, .ref a_this_place, .ref a_this_was])), (a_this_frontPlan, .inl (cI, 2000, .inl c_this_frontPlan)), (a_this_planScore, .inl (cI, 8000, .inl c_this_planScore))] H locs → lv_has ls 6 [(0, .ref a_this), (1, .int x1), (2, .int x2), (3, .int x3), (4, .int v4_6), (5, .int v5_6)] → W p l e rm_X7_near s m args below meth c H locs 0 0 Q (F0 m 6 ls []) := by
    intro n
    induction n with
    | zero => intro v4_6 v5_6 H locs ls hw; exact False.elim hw
    | succ n ih_6 =>
      intro v4_6 v5_6 H locs ls hw hG hl
      obtain ⟨w_6, hw_6, hw⟩ : ∃ w' : Int32 → Int32 → Prop, (∀ v4_6 v5_6, w' v4_6 v5_6 → Lp2 (b_X7_near_6 c_this_aims c_this_frontPlan c_this_planScore x1 x2 x3 kx_6) n v4_6 v5_6) ∧ b_X7_near_6 c_this_aims c_this_frontPlan c_this_planScore x1 x2 x3 kx_6 w' v4_6 v5_6 := ⟨_, fun _ _ h => h, hw⟩
      replace ih_6 : ∀ (v4_6 : Int32) (v5_6 : Int32) (H : Heap) (locs : List Loc) (ls : Array Slot), w_6 v4_6 v5_6 → HW (dC, dI) A s.heap [(a_this, .inr (6, [.int c_this_columns, .int c_this_rows, .int c_this_aims, .ref a_this_lows, .ref a_this_highs, .ref a_this_rights, .ref a_this_terms, .ref a_this_costs, .ref a_this_froms, .ref a_this_tos, .int c_this_gone, .int c_this_plans, .ref a_this_planPoint, .ref a_this_planScore, .int c_this_front, .ref a_this_frontPlan, .ref a_this_frontTies, .int c_this_picks, .ref a_this_pick, .int c_this_hasClimbed, .ref a_this_end, .ref a_this_point, .ref a_this_score, .ref a_this_by, .ref a_this_four, .ref a_this_isNear, .ref a_this_number, .ref a_this_numbers, .ref a_this_place, .ref a_this_was])), (a_this_frontPlan, .inl (cI, 2000, .inl c_this_frontPlan)), (a_this_planScore, .inl (cI, 8000, .inl c_this_planScore))] H locs → lv_has ls 6 [(0, .ref a_this), (1, .int x1), (2, .int x2), (3, .int x3), (4, .int v4_6), (5, .int v5_6)] → W p l e rm_X7_near s m args below meth c H locs 0 0 Q (F0 m 6 ls []) := fun v4_6 v5_6 H locs ls h => ih_6 v4_6 v5_6 H locs ls (hw_6 _ _ h)
      unfold b_X7_near_6 at hw
      refine lv_iload K.1 K.2.1 dX7_near_6 (lv_at hl 5 rfl) ?_
      refine lv_aload_n K.1 K.2.1 dX7_near_8 rfl (lv_at hl 0 rfl) ?_
      refine g_get (v := .int c_this_aims) K hG hin_RX7 0 rfl rfl 2 (by decide) (K.2.2.2.2.1 (.fieldLink RX7 89 "AimFrontsModel" "aims" "I") (by decide +kernel)) rfl rfl dX7_near_9 ?_
      refine lv_icmp_ge (tgt := 52) K.1 K.2.1 dX7_near_12 (by decide) (fun q_12 => ?_) (fun q_12 => ?_)
      · have hw := hw.1 q_12
        exact hX_6 v4_6 H locs ls hw hG (lv_sub hl [4] rfl)
      · have hw := hw.2 q_12
        refine lv_iload K.1 K.2.1 dX7_near_15 (lv_at hl 4 rfl) ?_
        refine lv_if_eq (tgt := 43) K.1 K.2.1 dX7_near_17 (by decide) (fun q_17 => ?_) (fun q_17 => ?_)
        · have hw := hw.1 q_17
          refine lv_iconst (v := 0) K.1 K.2.1 dX7_near_43 (by decide) ?_
          refine lv_istore (lv' := [(4, .int (0 : Int32)), (0, .ref a_this), (1, .int x1), (2, .int x2), (3, .int x3), (5, .int v5_6)]) K.1 K.2.1 dX7_near_44 hl (by decide) rfl (fun ls hl => ?_)
          refine lv_iinc (v := (v5_6 + (1 : Int32))) (lv' := [(5, .int (v5_6 + (1 : Int32))), (4, .int (0 : Int32)), (0, .ref a_this), (1, .int x1), (2, .int x2), (3, .int x3)]) K.1 K.2.1 dX7_near_46 hl (k := 5) rfl rfl (by decide) rfl (fun ls hl => ?_)
          refine lv_goto (tgt := 6) K.1 K.2.1 dX7_near_49 (by decide) ?_
          exact ih_6 (0 : Int32) (v5_6 + (1 : Int32)) H locs ls hw hG (lv_sub hl [2, 3, 4, 5, 1, 0] rfl)
        · have hw := hw.2 q_17
          refine lv_aload_n K.1 K.2.1 dX7_near_20 rfl (lv_at hl 0 rfl) ?_
          refine lv_iload_n K.1 K.2.1 dX7_near_21 rfl (lv_at hl 1 rfl) ?_
          refine lv_iload K.1 K.2.1 dX7_near_22 (lv_at hl 5 rfl) ?_
          refine g_ri K hG [0, 1, 2] rfl (g_runV (As := [.int x1, .int v5_6]) (rest := []) K hG hl [0, 1, 2] rfl rfl 0 rfl rfl (k_X7_at l dC dI cI cJ cZ cG H.size a_this a_this_lows a_this_highs a_this_rights a_this_terms a_this_costs a_this_froms a_this_tos a_this_planPoint a_this_planScore a_this_frontPlan a_this_frontTies a_this_pick a_this_end a_this_point a_this_score a_this_by a_this_four a_this_isNear a_this_number a_this_numbers a_this_place a_this_was c_this_aims c_this_columns c_this_front c_this_frontPlan c_this_gone c_this_hasClimbed c_this_picks c_this_planScore c_this_plans c_this_rows x1 v5_6 _ hw) (cwV 2 K.2.2.2.2.1 gX7_near_X7_at rfl rfl rfl (by decide +kernel) ⟨by decide, by decide⟩) rfl rfl (Nat.le_of_ble_eq_true rfl) ⟨Nat.zero_le _, Nat.zero_le _⟩ dX7_near_24) (fun r_24 H locs hw hG => ?_)
          refine lv_aload_n K.1 K.2.1 dX7_near_27 rfl (lv_at hl 0 rfl) ?_
          refine lv_iload_n K.1 K.2.1 dX7_near_28 rfl (lv_at hl 2 rfl) ?_
          refine lv_iload K.1 K.2.1 dX7_near_29 (lv_at hl 5 rfl) ?_
          refine g_ri K hG [0, 1, 2] rfl (g_runV (As := [.int x2, .int v5_6]) (rest := [.int r_24]) K hG hl [0, 1, 2] rfl rfl 0 rfl rfl (k_X7_at l dC dI cI cJ cZ cG H.size a_this a_this_lows a_this_highs a_this_rights a_this_terms a_this_costs a_this_froms a_this_tos a_this_planPoint a_this_planScore a_this_frontPlan a_this_frontTies a_this_pick a_this_end a_this_point a_this_score a_this_by a_this_four a_this_isNear a_this_number a_this_numbers a_this_place a_this_was c_this_aims c_this_columns c_this_front c_this_frontPlan c_this_gone c_this_hasClimbed c_this_picks c_this_planScore c_this_plans c_this_rows x2 v5_6 _ hw) (cwV 2 K.2.2.2.2.1 gX7_near_X7_at rfl rfl rfl (by decide +kernel) ⟨by decide, by decide⟩) rfl rfl (Nat.le_of_ble_eq_true rfl) ⟨Nat.zero_le _, Nat.zero_le _⟩ dX7_near_31) (fun r_31 H locs hw hG => ?_)
          refine lv_isub K.1 K.2.1 dX7_near_34 ?_
          refine lv_iload_n K.1 K.2.1 dX7_near_35 rfl (lv_at hl 3 rfl) ?_
          refine lv_icmp_gt (tgt := 43) K.1 K.2.1 dX7_near_36 (by decide) (fun q_36 => ?_) (fun q_36 => ?_)
          · have hw := hw.1 q_36
            refine lv_iconst (v := 0) K.1 K.2.1 dX7_near_43 (by decide) ?_
            refine lv_istore (lv' := [(4, .int (0 : Int32)), (0, .ref a_this), (1, .int x1), (2, .int x2), (3, .int x3), (5, .int v5_6)]) K.1 K.2.1 dX7_near_44 hl (by decide) rfl (fun ls hl => ?_)
            refine lv_iinc (v := (v5_6 + (1 : Int32))) (lv' := [(5, .int (v5_6 + (1 : Int32))), (4, .int (0 : Int32)), (0, .ref a_this), (1, .int x1), (2, .int x2), (3, .int x3)]) K.1 K.2.1 dX7_near_46 hl (k := 5) rfl rfl (by decide) rfl (fun ls hl => ?_)
            refine lv_goto (tgt := 6) K.1 K.2.1 dX7_near_49 (by decide) ?_
            exact ih_6 (0 : Int32) (v5_6 + (1 : Int32)) H locs ls hw hG (lv_sub hl [2, 3, 4, 5, 1, 0] rfl)
          · have hw := hw.2 q_36
            refine lv_iconst (v := 1) K.1 K.2.1 dX7_near_39 (by decide) ?_
            refine lv_goto (tgt := 44) K.1 K.2.1 dX7_near_40 (by decide) ?_
            refine lv_istore (lv' := [(4, .int (1 : Int32)), (0, .ref a_this), (1, .int x1), (2, .int x2), (3, .int x3), (5, .int v5_6)]) K.1 K.2.1 dX7_near_44 hl (by decide) rfl (fun ls hl => ?_)
            refine lv_iinc (v := (v5_6 + (1 : Int32))) (lv' := [(5, .int (v5_6 + (1 : Int32))), (4, .int (1 : Int32)), (0, .ref a_this), (1, .int x1), (2, .int x2), (3, .int x3)]) K.1 K.2.1 dX7_near_46 hl (k := 5) rfl rfl (by decide) rfl (fun ls hl => ?_)
            refine lv_goto (tgt := 6) K.1 K.2.1 dX7_near_49 (by decide) ?_
            exact ih_6 (1 : Int32) (v5_6 + (1 : Int32)) H locs ls hw hG (lv_sub hl [2, 3, 4, 5, 1, 0] rfl)
  exact hL_6 n_6 (1 : Int32) (0 : Int32) H locs ls hw hG (lv_sub hl [2, 3, 4, 5, 1, 0] rfl)
abbrev rm_X7_cover : Room := { frames := 3, cells := 0, slots := 0, locals := 69 }
set_option maxHeartbeats 4000000 in
set_option maxRecDepth 100000 in
theorem k_X7_cover (l : Launch) (dC : Nat → ClassId) (dI : Nat → Nat → Nat) (cI cJ cZ cG : ClassId) (sz : Nat) (a_this a_this_lows a_this_highs a_this_rights a_this_terms a_this_costs a_this_froms a_this_tos a_this_planPoint a_this_planScore a_this_frontPlan a_this_frontTies a_this_pick a_this_end a_this_point a_this_score a_this_by a_this_four a_this_isNear a_this_number a_this_numbers a_this_place a_this_was : Nat) (c_this_aims : Int32) (c_this_columns : Int32) (c_this_front : Int32) (c_this_frontPlan : Nat → Int32) (c_this_gone : Int32) (c_this_hasClimbed : Int32) (c_this_isNear : Nat → Int32) (c_this_pick : Nat → Int32) (c_this_picks : Int32) (c_this_planScore : Nat → Int32) (c_this_plans : Int32) (c_this_rows : Int32) (x1 : Int32) (post : Int32 → (Nat → Int32) → (Nat → Int32) → Int32 → Prop) (hw : wp_X7_cover c_this_aims c_this_front c_this_frontPlan c_this_isNear c_this_pick c_this_picks c_this_planScore x1 post) : MetI l yX7_cover wsX7_cover rm_X7_cover (dC, dI) cI cJ cZ cG [.ref a_this, .int x1] sz [(a_this, .inr (6, [.int c_this_columns, .int c_this_rows, .int c_this_aims, .ref a_this_lows, .ref a_this_highs, .ref a_this_rights, .ref a_this_terms, .ref a_this_costs, .ref a_this_froms, .ref a_this_tos, .int c_this_gone, .int c_this_plans, .ref a_this_planPoint, .ref a_this_planScore, .int c_this_front, .ref a_this_frontPlan, .ref a_this_frontTies, .int c_this_picks, .ref a_this_pick, .int c_this_hasClimbed, .ref a_this_end, .ref a_this_point, .ref a_this_score, .ref a_this_by, .ref a_this_four, .ref a_this_isNear, .ref a_this_number, .ref a_this_numbers, .ref a_this_place, .ref a_this_was])), (a_this_frontPlan, .inl (cI, 2000, .inl c_this_frontPlan)), (a_this_isNear, .inl (cZ, 2000, .inl c_this_isNear)), (a_this_pick, .inl (cI, 2000, .inl c_this_pick)), (a_this_planScore, .inl (cI, 8000, .inl c_this_planScore))] (fun (r : Int32) (u : (Nat → Int32) × (Nat → Int32) × Int32) => post r (u.1) (u.2.1) (u.2.2)) (fun u => [(a_this, .inr (6, [.int c_this_columns, .int c_this_rows, .int c_this_aims, .ref a_this_lows, .ref a_this_highs, .ref a_this_rights, .ref a_this_terms, .ref a_this_costs, .ref a_this_froms, .ref a_this_tos, .int c_this_gone, .int c_this_plans, .ref a_this_planPoint, .ref a_this_planScore, .int c_this_front, .ref a_this_frontPlan, .ref a_this_frontTies, .int (u.2.2), .ref a_this_pick, .int c_this_hasClimbed, .ref a_this_end, .ref a_this_point, .ref a_this_score, .ref a_this_by, .ref a_this_four, .ref a_this_isNear, .ref a_this_number, .ref a_this_numbers, .ref a_this_place, .ref a_this_was])), (a_this_frontPlan, .inl (cI, 2000, .inl c_this_frontPlan)), (a_this_isNear, .inl (cZ, 2000, .inl (u.1))), (a_this_pick, .inl (cI, 2000, .inl (u.2.1))), (a_this_planScore, .inl (cI, 8000, .inl c_this_planScore))]) := by
  refine met_i (ty := .int) (Or.inl rfl) (cc := cX7_cover) (maxL := 8) (by decide) rfl (Nat.le_of_ble_eq_true rfl) ?_
  intro p e s m args below meth c A Q H locs ls K hG hl hret
  have hl : lv_has ls 8 [(0, .ref a_this), (1, .int x1)] := hl
  have hin_RX7 : ∀ w ∈ u_ws RX7 TX7 30, w ∈ wsX7_cover := by decide +kernel
  unfold wp_X7_cover at hw
  refine lv_iload_n K.1 K.2.1 dX7_cover_0 rfl (lv_at hl 1 rfl) ?_
  refine lv_i2l K.1 K.2.1 dX7_cover_1 rfl ?_
  refine lv_lconst (v := 0) K.1 K.2.1 dX7_cover_2 (by decide) ?_
  refine lv_ldc2 (v := 4000) K.1 K.2.1 K.2.2.2.1 (K.2.2.2.2.1 (.constantLong RX7 205 (4000)) (by decide +kernel)) dX7_cover_3 ?_
  refine g_ri K hG [] rfl (g_runS (As := [.long (x1.toInt64), .long (0 : Int64), .long (4000 : Int64)]) (rest := []) K hG hl [] rfl rfl (k_X7_in l dC dI cI cJ cZ cG H.size (x1.toInt64) (0 : Int64) (4000 : Int64) _ hw) (va_cwS 3 K.2.2.2.2.1 gX7_cover_X7_in rfl rfl rfl (by decide +kernel) ⟨by decide, by decide⟩) rfl rfl (Nat.le_of_ble_eq_true rfl) ⟨Nat.zero_le _, Nat.zero_le _⟩ dX7_cover_6) (fun r_6 H locs hw hG => ?_)
  refine lv_if_ne (tgt := 15) K.1 K.2.1 dX7_cover_9 (by decide) (fun q_9 => ?_) (fun q_9 => ?_)
  · have hw := hw.2 q_9
    refine lv_aload_n K.1 K.2.1 dX7_cover_15 rfl (lv_at hl 0 rfl) ?_
    refine g_get (v := .int c_this_front) K hG hin_RX7 0 rfl rfl 14 (by decide) (K.2.2.2.2.1 (.fieldLink RX7 98 "AimFrontsModel" "front" "I") (by decide +kernel)) rfl rfl dX7_cover_16 ?_
    refine lv_bipush (v := 100) K.1 K.2.1 dX7_cover_19 (by decide) ?_
    refine lv_icmp_le (tgt := 27) K.1 K.2.1 dX7_cover_21 (by decide) (fun q_21 => ?_) (fun q_21 => ?_)
    · have hw := hw.1 q_21
      refine lv_iconst (v := 0) K.1 K.2.1 dX7_cover_27 (by decide) ?_
      refine lv_istore_n (lv' := [(2, .int (0 : Int32)), (0, .ref a_this), (1, .int x1)]) K.1 K.2.1 dX7_cover_28 rfl hl (by decide) rfl (fun ls hl => ?_)
      obtain ⟨kx_29, hkx_29, n_29, hw⟩ := Lx1_2_abs hw
      have hX_29 : ∀ (c_this_isNear_29e : Nat → Int32) (H : Heap) (locs : List Loc) (ls : Array Slot), kx_29 c_this_isNear_29e → HW (dC, dI) A s.heap [(a_this, .inr (6, [.int c_this_columns, .int c_this_rows, .int c_this_aims, .ref a_this_lows, .ref a_this_highs, .ref a_this_rights, .ref a_this_terms, .ref a_this_costs, .ref a_this_froms, .ref a_this_tos, .int c_this_gone, .int c_this_plans, .ref a_this_planPoint, .ref a_this_planScore, .int c_this_front, .ref a_this_frontPlan, .ref a_this_frontTies, .int c_this_picks, .ref a_this_pick, .int c_this_hasClimbed, .ref a_this_end, .ref a_this_point, .ref a_this_score, .ref a_this_by, .ref a_this_four, .ref a_this_isNear, .ref a_this_number, .ref a_this_numbers, .ref a_this_place, .ref a_this_was])), (a_this_frontPlan, .inl (cI, 2000, .inl c_this_frontPlan)), (a_this_isNear, .inl (cZ, 2000, .inl c_this_isNear_29e)), (a_this_pick, .inl (cI, 2000, .inl c_this_pick)), (a_this_planScore, .inl (cI, 8000, .inl c_this_planScore))] H locs → lv_has ls 8 [(0, .ref a_this), (1, .int x1)] → W p l e rm_X7_cover s m args below meth c H locs 0 0 Q (F0 m 50 ls []) := by
        intro c_this_isNear_29e H locs ls hw hG hl
        have hw := hkx_29 _ hw
        refine lv_aload_n K.1 K.2.1 dX7_cover_50 rfl (lv_at hl 0 rfl) ?_
        refine lv_iconst (v := 0) K.1 K.2.1 dX7_cover_51 (by decide) ?_
        refine g_put (v := .int (0 : Int32)) (ws' := [(a_this, .inr (6, [.int c_this_columns, .int c_this_rows, .int c_this_aims, .ref a_this_lows, .ref a_this_highs, .ref a_this_rights, .ref a_this_terms, .ref a_this_costs, .ref a_this_froms, .ref a_this_tos, .int c_this_gone, .int c_this_plans, .ref a_this_planPoint, .ref a_this_planScore, .int c_this_front, .ref a_this_frontPlan, .ref a_this_frontTies, .int (0 : Int32), .ref a_this_pick, .int c_this_hasClimbed, .ref a_this_end, .ref a_this_point, .ref a_this_score, .ref a_this_by, .ref a_this_four, .ref a_this_isNear, .ref a_this_number, .ref a_this_numbers, .ref a_this_place, .ref a_this_was])), (a_this_frontPlan, .inl (cI, 2000, .inl c_this_frontPlan)), (a_this_isNear, .inl (cZ, 2000, .inl c_this_isNear_29e)), (a_this_pick, .inl (cI, 2000, .inl c_this_pick)), (a_this_planScore, .inl (cI, 8000, .inl c_this_planScore))]) K hG hin_RX7 tyX7 tyX7_ok nmX7 0 rfl rfl 17 (by decide) (K.2.2.2.2.1 (.fieldLink RX7 101 "AimFrontsModel" "picks" "I") (by decide +kernel)) rfl rfl rfl rfl (Nat.le_of_ble_eq_true rfl) rfl dX7_cover_52 (fun H locs hG => ?_)
        refine lv_aload_n K.1 K.2.1 dX7_cover_55 rfl (lv_at hl 0 rfl) ?_
        refine g_get (v := .int c_this_front) K hG hin_RX7 0 rfl rfl 14 (by decide) (K.2.2.2.2.1 (.fieldLink RX7 98 "AimFrontsModel" "front" "I") (by decide +kernel)) rfl rfl dX7_cover_56 ?_
        refine lv_istore_n (lv' := [(2, .int c_this_front), (0, .ref a_this), (1, .int x1)]) K.1 K.2.1 dX7_cover_59 rfl hl (by decide) rfl (fun ls hl => ?_)
        obtain ⟨kx_60, hkx_60, n_60, hw⟩ := Lx3_4_abs hw
        have hX_60 : ∀ (c_this_isNear_60e : Nat → Int32) (c_this_pick_60e : Nat → Int32) (c_this_picks_60e : Int32) (H : Heap) (locs : List Loc) (ls : Array Slot), kx_60 c_this_isNear_60e c_this_pick_60e c_this_picks_60e → HW (dC, dI) A s.heap [(a_this, .inr (6, [.int c_this_columns, .int c_this_rows, .int c_this_aims, .ref a_this_lows, .ref a_this_highs, .ref a_this_rights, .ref a_this_terms, .ref a_this_costs, .ref a_this_froms, .ref a_this_tos, .int c_this_gone, .int c_this_plans, .ref a_this_planPoint, .ref a_this_planScore, .int c_this_front, .ref a_this_frontPlan, .ref a_this_frontTies, .int c_this_picks_60e, .ref a_this_pick, .int c_this_hasClimbed, .ref a_this_end, .ref a_this_point, .ref a_this_score, .ref a_this_by, .ref a_this_four, .ref a_this_isNear, .ref a_this_number, .ref a_this_numbers, .ref a_this_place, .ref a_this_was])), (a_this_frontPlan, .inl (cI, 2000, .inl c_this_frontPlan)), (a_this_isNear, .inl (cZ, 2000, .inl c_this_isNear_60e)), (a_this_pick, .inl (cI, 2000, .inl c_this_pick_60e)), (a_this_planScore, .inl (cI, 8000, .inl c_this_planScore))] H locs → lv_has ls 8 [(0, .ref a_this)] → W p l e rm_X7_cover s m args below meth c H locs 0 0 Q (F0 m 249 ls []) := by
          intro c_this_isNear_60e c_this_pick_60e c_this_picks_60e H locs ls hw hG hl
          have hw := hkx_60 _ _ _ hw
          refine lv_aload_n K.1 K.2.1 dX7_cover_249 rfl (lv_at hl 0 rfl) ?_
          refine g_get (v := .int c_this_picks_60e) K hG hin_RX7 0 rfl rfl 17 (by decide) (K.2.2.2.2.1 (.fieldLink RX7 101 "AimFrontsModel" "picks" "I") (by decide +kernel)) rfl rfl dX7_cover_250 ?_
          exact hret c_this_picks_60e (c_this_isNear_60e, c_this_pick_60e, c_this_picks_60e) H locs _ ls dX7_cover_253 rfl hw hG
        have hL_60 : ∀ (n : Nat), ∀ (v2_60 : Int32) (c_this_isNear_60 : Nat → Int32) (c_this_pick_60 : Nat → Int32) (c_this_picks_60 : Int32) (H : Heap) (locs : List Loc) (ls : Array Slot), Lp4 (b_X7_cover_60 c_this_aims c_this_front c_this_frontPlan c_this_planScore x1 kx_60) n v2_60 c_this_isNear_60 c_this_pick_60 c_this_picks_60 → HW (dC, dI) A s.heap [(a_this, .inr (6, [.int c_this_columns, .int c_this_rows, .int c_this_aims, .ref a_this_lows, .ref a_this_highs, .ref a_this_rights, .ref a_this_terms, .ref a_this_costs, .ref a_this_froms, .ref a_this_tos, .int c_this_gone, .int c_this_plans, .ref a_this_planPoint, .ref a_this_planScore, .int c_this_front, .ref a_this_frontPlan, .ref a_this_frontTies, .int c_this_picks_60, .ref a_this_pick, .int c_this_hasClimbed, .ref a_this_end, .ref a_this_point, .ref a_this_score, .ref a_this_by, .ref a_this_four, .ref a_this_isNear, .ref a_this_number, .ref a_this_numbers, .ref a_this_place, .ref a_this_was])), (a_this_frontPlan, .inl (cI, 2000, .inl c_this_frontPlan)), (a_this_isNear, .inl (cZ, 2000, .inl c_this_isNear_60)), (a_this_pick, .inl (cI, 2000, .inl c_this_pick_60)), (a_this_planScore, .inl (cI, 8000, .inl c_this_planScore))] H locs → lv_has ls 8 [(0, .ref a_this), (1, .int x1), (2, .int v2_60)] → W p l e rm_X7_cover s m args below meth c H locs 0 0 Q (F0 m 60 ls []) := by
          intro n
          induction n with
          | zero => intro v2_60 c_this_isNear_60 c_this_pick_60 c_this_picks_60 H locs ls hw; exact False.elim hw
          | succ n ih_60 =>
            intro v2_60 c_this_isNear_60 c_this_pick_60 c_this_picks_60 H locs ls hw hG hl
            obtain ⟨w_60, hw_60, hw⟩ : ∃ w' : Int32 → (Nat → Int32) → (Nat → Int32) → Int32 → Prop, (∀ v2_60 c_this_isNear_60 c_this_pick_60 c_this_picks_60, w' v2_60 c_this_isNear_60 c_this_pick_60 c_this_picks_60 → Lp4 (b_X7_cover_60 c_this_aims c_this_front c_this_frontPlan c_this_planScore x1 kx_60) n v2_60 c_this_isNear_60 c_this_pick_60 c_this_picks_60) ∧ b_X7_cover_60 c_this_aims c_this_front c_this_frontPlan c_this_planScore x1 kx_60 w' v2_60 c_this_isNear_60 c_this_pick_60 c_this_picks_60 := ⟨_, fun _ _ _ _ h => h, hw⟩
            replace ih_60 : ∀ (v2_60 : Int32) (c_this_isNear_60 : Nat → Int32) (c_this_pick_60 : Nat → Int32) (c_this_picks_60 : Int32) (H : Heap) (locs : List Loc) (ls : Array Slot), w_60 v2_60 c_this_isNear_60 c_this_pick_60 c_this_picks_60 → HW (dC, dI) A s.heap [(a_this, .inr (6, [.int c_this_columns, .int c_this_rows, .int c_this_aims, .ref a_this_lows, .ref a_this_highs, .ref a_this_rights, .ref a_this_terms, .ref a_this_costs, .ref a_this_froms, .ref a_this_tos, .int c_this_gone, .int c_this_plans, .ref a_this_planPoint, .ref a_this_planScore, .int c_this_front, .ref a_this_frontPlan, .ref a_this_frontTies, .int c_this_picks_60, .ref a_this_pick, .int c_this_hasClimbed, .ref a_this_end, .ref a_this_point, .ref a_this_score, .ref a_this_by, .ref a_this_four, .ref a_this_isNear, .ref a_this_number, .ref a_this_numbers, .ref a_this_place, .ref a_this_was])), (a_this_frontPlan, .inl (cI, 2000, .inl c_this_frontPlan)), (a_this_isNear, .inl (cZ, 2000, .inl c_this_isNear_60)), (a_this_pick, .inl (cI, 2000, .inl c_this_pick_60)), (a_this_planScore, .inl (cI, 8000, .inl c_this_planScore))] H locs → lv_has ls 8 [(0, .ref a_this), (1, .int x1), (2, .int v2_60)] → W p l e rm_X7_cover s m args below meth c H locs 0 0 Q (F0 m 60 ls []) := fun v2_60 c_this_isNear_60 c_this_pick_60 c_this_picks_60 H locs ls h => ih_60 v2_60 c_this_isNear_60 c_this_pick_60 c_this_picks_60 H locs ls (hw_60 _ _ _ _ h)
            unfold b_X7_cover_60 at hw
            refine lv_iload_n K.1 K.2.1 dX7_cover_60 rfl (lv_at hl 2 rfl) ?_
            refine lv_if_le (tgt := 249) K.1 K.2.1 dX7_cover_61 (by decide) (fun q_61 => ?_) (fun q_61 => ?_)
            · have hw := hw.1 q_61
              exact hX_60 c_this_isNear_60 c_this_pick_60 c_this_picks_60 H locs ls hw hG (lv_sub hl [0] rfl)
            · have hw := hw.2 q_61
              refine lv_iconst (v := 0) K.1 K.2.1 dX7_cover_64 (by decide) ?_
              refine lv_istore_n (lv' := [(3, .int (0 : Int32)), (0, .ref a_this), (1, .int x1), (2, .int v2_60)]) K.1 K.2.1 dX7_cover_65 rfl hl (by decide) rfl (fun ls hl => ?_)
              refine lv_iconst (v := 0) K.1 K.2.1 dX7_cover_66 (by decide) ?_
              refine lv_istore (lv' := [(4, .int (0 : Int32)), (3, .int (0 : Int32)), (0, .ref a_this), (1, .int x1), (2, .int v2_60)]) K.1 K.2.1 dX7_cover_67 hl (by decide) rfl (fun ls hl => ?_)
              refine lv_iconst (v := 0) K.1 K.2.1 dX7_cover_69 (by decide) ?_
              refine lv_istore (lv' := [(5, .int (0 : Int32)), (4, .int (0 : Int32)), (3, .int (0 : Int32)), (0, .ref a_this), (1, .int x1), (2, .int v2_60)]) K.1 K.2.1 dX7_cover_70 hl (by decide) rfl (fun ls hl => ?_)
              obtain ⟨kx_72, hkx_72, n_72, hw⟩ := Lx2_3_abs hw
              have hX_72 : ∀ (v3_72e : Int32) (v4_72e : Int32) (H : Heap) (locs : List Loc) (ls : Array Slot), kx_72 v3_72e v4_72e → HW (dC, dI) A s.heap [(a_this, .inr (6, [.int c_this_columns, .int c_this_rows, .int c_this_aims, .ref a_this_lows, .ref a_this_highs, .ref a_this_rights, .ref a_this_terms, .ref a_this_costs, .ref a_this_froms, .ref a_this_tos, .int c_this_gone, .int c_this_plans, .ref a_this_planPoint, .ref a_this_planScore, .int c_this_front, .ref a_this_frontPlan, .ref a_this_frontTies, .int c_this_picks_60, .ref a_this_pick, .int c_this_hasClimbed, .ref a_this_end, .ref a_this_point, .ref a_this_score, .ref a_this_by, .ref a_this_four, .ref a_this_isNear, .ref a_this_number, .ref a_this_numbers, .ref a_this_place, .ref a_this_was])), (a_this_frontPlan, .inl (cI, 2000, .inl c_this_frontPlan)), (a_this_isNear, .inl (cZ, 2000, .inl c_this_isNear_60)), (a_this_pick, .inl (cI, 2000, .inl c_this_pick_60)), (a_this_planScore, .inl (cI, 8000, .inl c_this_planScore))] H locs → lv_has ls 8 [(0, .ref a_this), (1, .int x1), (2, .int v2_60), (3, .int v3_72e), (4, .int v4_72e)] → W p l e rm_X7_cover s m args below meth c H locs 0 0 Q (F0 m 170 ls []) := by
                intro v3_72e v4_72e H locs ls hw hG hl
                have hw := hkx_72 _ _ hw
                refine lv_iconst (v := 0) K.1 K.2.1 dX7_cover_170 (by decide) ?_
                refine lv_istore (lv' := [(5, .int (0 : Int32)), (0, .ref a_this), (1, .int x1), (2, .int v2_60), (3, .int v3_72e), (4, .int v4_72e)]) K.1 K.2.1 dX7_cover_171 hl (by decide) rfl (fun ls hl => ?_)
                obtain ⟨kx_173, hkx_173, n_173, hw⟩ := Lx1_2_abs hw
                have hX_173 : ∀ (c_this_isNear_173e : Nat → Int32) (H : Heap) (locs : List Loc) (ls : Array Slot), kx_173 c_this_isNear_173e → HW (dC, dI) A s.heap [(a_this, .inr (6, [.int c_this_columns, .int c_this_rows, .int c_this_aims, .ref a_this_lows, .ref a_this_highs, .ref a_this_rights, .ref a_this_terms, .ref a_this_costs, .ref a_this_froms, .ref a_this_tos, .int c_this_gone, .int c_this_plans, .ref a_this_planPoint, .ref a_this_planScore, .int c_this_front, .ref a_this_frontPlan, .ref a_this_frontTies, .int c_this_picks_60, .ref a_this_pick, .int c_this_hasClimbed, .ref a_this_end, .ref a_this_point, .ref a_this_score, .ref a_this_by, .ref a_this_four, .ref a_this_isNear, .ref a_this_number, .ref a_this_numbers, .ref a_this_place, .ref a_this_was])), (a_this_frontPlan, .inl (cI, 2000, .inl c_this_frontPlan)), (a_this_isNear, .inl (cZ, 2000, .inl c_this_isNear_173e)), (a_this_pick, .inl (cI, 2000, .inl c_this_pick_60)), (a_this_planScore, .inl (cI, 8000, .inl c_this_planScore))] H locs → lv_has ls 8 [(0, .ref a_this), (1, .int x1), (2, .int v2_60), (3, .int v3_72e), (4, .int v4_72e)] → W p l e rm_X7_cover s m args below meth c H locs 0 0 Q (F0 m 221 ls []) := by
                  intro c_this_isNear_173e H locs ls hw hG hl
                  have hw := hkx_173 _ hw
                  refine lv_aload_n K.1 K.2.1 dX7_cover_221 rfl (lv_at hl 0 rfl) ?_
                  refine g_get (v := .ref a_this_pick) K hG hin_RX7 0 rfl rfl 18 (by decide) (K.2.2.2.2.1 (.fieldLink RX7 43 "AimFrontsModel" "pick" "[I") (by decide +kernel)) rfl rfl dX7_cover_222 ?_
                  refine lv_aload_n K.1 K.2.1 dX7_cover_225 rfl (lv_at hl 0 rfl) ?_
                  refine g_get (v := .int c_this_picks_60) K hG hin_RX7 0 rfl rfl 17 (by decide) (K.2.2.2.2.1 (.fieldLink RX7 101 "AimFrontsModel" "picks" "I") (by decide +kernel)) rfl rfl dX7_cover_226 ?_
                  refine lv_iload_n K.1 K.2.1 dX7_cover_229 rfl (lv_at hl 3 rfl) ?_
                  obtain ⟨h_230, hw⟩ := hw
                  refine g_iast (ws' := [(a_this, .inr (6, [.int c_this_columns, .int c_this_rows, .int c_this_aims, .ref a_this_lows, .ref a_this_highs, .ref a_this_rights, .ref a_this_terms, .ref a_this_costs, .ref a_this_froms, .ref a_this_tos, .int c_this_gone, .int c_this_plans, .ref a_this_planPoint, .ref a_this_planScore, .int c_this_front, .ref a_this_frontPlan, .ref a_this_frontTies, .int c_this_picks_60, .ref a_this_pick, .int c_this_hasClimbed, .ref a_this_end, .ref a_this_point, .ref a_this_score, .ref a_this_by, .ref a_this_four, .ref a_this_isNear, .ref a_this_number, .ref a_this_numbers, .ref a_this_place, .ref a_this_was])), (a_this_frontPlan, .inl (cI, 2000, .inl c_this_frontPlan)), (a_this_isNear, .inl (cZ, 2000, .inl c_this_isNear_173e)), (a_this_pick, .inl (cI, 2000, .inl (upd c_this_pick_60 (c_this_picks_60).toNatClampNeg v3_72e))), (a_this_planScore, .inl (cI, 8000, .inl c_this_planScore))]) K hG 3 rfl h_230 rfl dX7_cover_230 (fun H locs hG => ?_)
                  refine lv_aload_n K.1 K.2.1 dX7_cover_231 rfl (lv_at hl 0 rfl) ?_
                  refine lv_dup K.1 K.2.1 dX7_cover_232 rfl ?_
                  refine g_get (v := .int c_this_picks_60) K hG hin_RX7 0 rfl rfl 17 (by decide) (K.2.2.2.2.1 (.fieldLink RX7 101 "AimFrontsModel" "picks" "I") (by decide +kernel)) rfl rfl dX7_cover_233 ?_
                  refine lv_iconst (v := 1) K.1 K.2.1 dX7_cover_236 (by decide) ?_
                  refine lv_iadd K.1 K.2.1 dX7_cover_237 ?_
                  refine g_put (v := .int (c_this_picks_60 + (1 : Int32))) (ws' := [(a_this, .inr (6, [.int c_this_columns, .int c_this_rows, .int c_this_aims, .ref a_this_lows, .ref a_this_highs, .ref a_this_rights, .ref a_this_terms, .ref a_this_costs, .ref a_this_froms, .ref a_this_tos, .int c_this_gone, .int c_this_plans, .ref a_this_planPoint, .ref a_this_planScore, .int c_this_front, .ref a_this_frontPlan, .ref a_this_frontTies, .int (c_this_picks_60 + (1 : Int32)), .ref a_this_pick, .int c_this_hasClimbed, .ref a_this_end, .ref a_this_point, .ref a_this_score, .ref a_this_by, .ref a_this_four, .ref a_this_isNear, .ref a_this_number, .ref a_this_numbers, .ref a_this_place, .ref a_this_was])), (a_this_frontPlan, .inl (cI, 2000, .inl c_this_frontPlan)), (a_this_isNear, .inl (cZ, 2000, .inl c_this_isNear_173e)), (a_this_pick, .inl (cI, 2000, .inl (upd c_this_pick_60 (c_this_picks_60).toNatClampNeg v3_72e))), (a_this_planScore, .inl (cI, 8000, .inl c_this_planScore))]) K hG hin_RX7 tyX7 tyX7_ok nmX7 0 rfl rfl 17 (by decide) (K.2.2.2.2.1 (.fieldLink RX7 101 "AimFrontsModel" "picks" "I") (by decide +kernel)) rfl rfl rfl rfl (Nat.le_of_ble_eq_true rfl) rfl dX7_cover_238 (fun H locs hG => ?_)
                  refine lv_iload_n K.1 K.2.1 dX7_cover_241 rfl (lv_at hl 2 rfl) ?_
                  refine lv_iload K.1 K.2.1 dX7_cover_242 (lv_at hl 4 rfl) ?_
                  refine lv_isub K.1 K.2.1 dX7_cover_244 ?_
                  refine lv_istore_n (lv' := [(2, .int (v2_60 - v4_72e)), (0, .ref a_this), (1, .int x1), (3, .int v3_72e), (4, .int v4_72e)]) K.1 K.2.1 dX7_cover_245 rfl hl (by decide) rfl (fun ls hl => ?_)
                  refine lv_goto (tgt := 60) K.1 K.2.1 dX7_cover_246 (by decide) ?_
                  exact ih_60 (v2_60 - v4_72e) c_this_isNear_173e (upd c_this_pick_60 (c_this_picks_60).toNatClampNeg v3_72e) (c_this_picks_60 + (1 : Int32)) H locs ls hw hG (lv_sub hl [1, 2, 0] rfl)
                have hL_173 : ∀ (n : Nat), ∀ (v5_173 : Int32) (c_this_isNear_173 : Nat → Int32) (H : Heap) (locs : List Loc) (ls : Array Slot), Lp2 (b_X7_cover_173 c_this_aims c_this_front c_this_frontPlan c_this_planScore x1 v3_72e kx_173) n v5_173 c_this_isNear_173 → HW (dC, dI) A s.heap [(a_this, .inr (6, [.int c_this_columns, .int c_this_rows, .int c_this_aims, .ref a_this_lows, .ref a_this_highs, .ref a_this_rights, .ref a_this_terms, .ref a_this_costs, .ref a_this_froms, .ref a_this_tos, .int c_this_gone, .int c_this_plans, .ref a_this_planPoint, .ref a_this_planScore, .int c_this_front, .ref a_this_frontPlan, .ref a_this_frontTies, .int c_this_picks_60, .ref a_this_pick, .int c_this_hasClimbed, .ref a_this_end, .ref a_this_point, .ref a_this_score, .ref a_this_by, .ref a_this_four, .ref a_this_isNear, .ref a_this_number, .ref a_this_numbers, .ref a_this_place, .ref a_this_was])), (a_this_frontPlan, .inl (cI, 2000, .inl c_this_frontPlan)), (a_this_isNear, .inl (cZ, 2000, .inl c_this_isNear_173)), (a_this_pick, .inl (cI, 2000, .inl c_this_pick_60)), (a_this_planScore, .inl (cI, 8000, .inl c_this_planScore))] H locs → lv_has ls 8 [(0, .ref a_this), (1, .int x1), (2, .int v2_60), (3, .int v3_72e), (4, .int v4_72e), (5, .int v5_173)] → W p l e rm_X7_cover s m args below meth c H locs 0 0 Q (F0 m 173 ls []) := by
                  intro n
                  induction n with
                  | zero => intro v5_173 c_this_isNear_173 H locs ls hw; exact False.elim hw
                  | succ n ih_173 =>
                    intro v5_173 c_this_isNear_173 H locs ls hw hG hl
                    obtain ⟨w_173, hw_173, hw⟩ : ∃ w' : Int32 → (Nat → Int32) → Prop, (∀ v5_173 c_this_isNear_173, w' v5_173 c_this_isNear_173 → Lp2 (b_X7_cover_173 c_this_aims c_this_front c_this_frontPlan c_this_planScore x1 v3_72e kx_173) n v5_173 c_this_isNear_173) ∧ b_X7_cover_173 c_this_aims c_this_front c_this_frontPlan c_this_planScore x1 v3_72e kx_173 w' v5_173 c_this_isNear_173 := ⟨_, fun _ _ h => h, hw⟩
                    replace ih_173 : ∀ (v5_173 : Int32) (c_this_isNear_173 : Nat → Int32) (H : Heap) (locs : List Loc) (ls : Array Slot), w_173 v5_173 c_this_isNear_173 → HW (dC, dI) A s.heap [(a_this, .inr (6, [.int c_this_columns, .int c_this_rows, .int c_this_aims, .ref a_this_lows, .ref a_this_highs, .ref a_this_rights, .ref a_this_terms, .ref a_this_costs, .ref a_this_froms, .ref a_this_tos, .int c_this_gone, .int c_this_plans, .ref a_this_planPoint, .ref a_this_planScore, .int c_this_front, .ref a_this_frontPlan, .ref a_this_frontTies, .int c_this_picks_60, .ref a_this_pick, .int c_this_hasClimbed, .ref a_this_end, .ref a_this_point, .ref a_this_score, .ref a_this_by, .ref a_this_four, .ref a_this_isNear, .ref a_this_number, .ref a_this_numbers, .ref a_this_place, .ref a_this_was])), (a_this_frontPlan, .inl (cI, 2000, .inl c_this_frontPlan)), (a_this_isNear, .inl (cZ, 2000, .inl c_this_isNear_173)), (a_this_pick, .inl (cI, 2000, .inl c_this_pick_60)), (a_this_planScore, .inl (cI, 8000, .inl c_this_planScore))] H locs → lv_has ls 8 [(0, .ref a_this), (1, .int x1), (2, .int v2_60), (3, .int v3_72e), (4, .int v4_72e), (5, .int v5_173)] → W p l e rm_X7_cover s m args below meth c H locs 0 0 Q (F0 m 173 ls []) := fun v5_173 c_this_isNear_173 H locs ls h => ih_173 v5_173 c_this_isNear_173 H locs ls (hw_173 _ _ h)
                    unfold b_X7_cover_173 at hw
                    refine lv_iload K.1 K.2.1 dX7_cover_173 (lv_at hl 5 rfl) ?_
                    refine lv_aload_n K.1 K.2.1 dX7_cover_175 rfl (lv_at hl 0 rfl) ?_
                    refine g_get (v := .int c_this_front) K hG hin_RX7 0 rfl rfl 14 (by decide) (K.2.2.2.2.1 (.fieldLink RX7 98 "AimFrontsModel" "front" "I") (by decide +kernel)) rfl rfl dX7_cover_176 ?_
                    refine lv_icmp_ge (tgt := 221) K.1 K.2.1 dX7_cover_179 (by decide) (fun q_179 => ?_) (fun q_179 => ?_)
                    · have hw := hw.1 q_179
                      exact hX_173 c_this_isNear_173 H locs ls hw hG (lv_sub hl [0, 1, 2, 3, 4] rfl)
                    · have hw := hw.2 q_179
                      refine lv_aload_n K.1 K.2.1 dX7_cover_182 rfl (lv_at hl 0 rfl) ?_
                      refine g_get (v := .ref a_this_isNear) K hG hin_RX7 0 rfl rfl 25 (by decide) (K.2.2.2.2.1 (.fieldLink RX7 62 "AimFrontsModel" "isNear" "[Z") (by decide +kernel)) rfl rfl dX7_cover_183 ?_
                      refine lv_iload K.1 K.2.1 dX7_cover_186 (lv_at hl 5 rfl) ?_
                      refine lv_aload_n K.1 K.2.1 dX7_cover_188 rfl (lv_at hl 0 rfl) ?_
                      refine g_get (v := .ref a_this_isNear) K hG hin_RX7 0 rfl rfl 25 (by decide) (K.2.2.2.2.1 (.fieldLink RX7 62 "AimFrontsModel" "isNear" "[Z") (by decide +kernel)) rfl rfl dX7_cover_189 ?_
                      refine lv_iload K.1 K.2.1 dX7_cover_192 (lv_at hl 5 rfl) ?_
                      obtain ⟨h_194, hw⟩ := hw
                      refine g_zald K hG 2 rfl h_194 dX7_cover_194 ?_
                      refine lv_if_ne (tgt := 209) K.1 K.2.1 dX7_cover_195 (by decide) (fun q_195 => ?_) (fun q_195 => ?_)
                      · have hw := hw.2 q_195
                        refine lv_iconst (v := 1) K.1 K.2.1 dX7_cover_209 (by decide) ?_
                        refine lv_goto (tgt := 214) K.1 K.2.1 dX7_cover_210 (by decide) ?_
                        obtain ⟨h_214, hw⟩ := hw
                        refine g_zast (ws' := [(a_this, .inr (6, [.int c_this_columns, .int c_this_rows, .int c_this_aims, .ref a_this_lows, .ref a_this_highs, .ref a_this_rights, .ref a_this_terms, .ref a_this_costs, .ref a_this_froms, .ref a_this_tos, .int c_this_gone, .int c_this_plans, .ref a_this_planPoint, .ref a_this_planScore, .int c_this_front, .ref a_this_frontPlan, .ref a_this_frontTies, .int c_this_picks_60, .ref a_this_pick, .int c_this_hasClimbed, .ref a_this_end, .ref a_this_point, .ref a_this_score, .ref a_this_by, .ref a_this_four, .ref a_this_isNear, .ref a_this_number, .ref a_this_numbers, .ref a_this_place, .ref a_this_was])), (a_this_frontPlan, .inl (cI, 2000, .inl c_this_frontPlan)), (a_this_isNear, .inl (cZ, 2000, .inl (upd c_this_isNear_173 (v5_173).toNatClampNeg (vp_nar .boolean (1 : Int32))))), (a_this_pick, .inl (cI, 2000, .inl c_this_pick_60)), (a_this_planScore, .inl (cI, 8000, .inl c_this_planScore))]) K hG 2 rfl h_214 rfl dX7_cover_214 (fun H locs hG => ?_)
                        refine lv_iinc (v := (v5_173 + (1 : Int32))) (lv' := [(5, .int (v5_173 + (1 : Int32))), (0, .ref a_this), (1, .int x1), (2, .int v2_60), (3, .int v3_72e), (4, .int v4_72e)]) K.1 K.2.1 dX7_cover_215 hl (k := 5) rfl rfl (by decide) rfl (fun ls hl => ?_)
                        refine lv_goto (tgt := 173) K.1 K.2.1 dX7_cover_218 (by decide) ?_
                        exact ih_173 (v5_173 + (1 : Int32)) (upd c_this_isNear_173 (v5_173).toNatClampNeg (vp_nar .boolean (1 : Int32))) H locs ls hw hG (lv_sub hl [1, 2, 3, 4, 5, 0] rfl)
                      · have hw := hw.1 q_195
                        refine lv_aload_n K.1 K.2.1 dX7_cover_198 rfl (lv_at hl 0 rfl) ?_
                        refine lv_iload_n K.1 K.2.1 dX7_cover_199 rfl (lv_at hl 3 rfl) ?_
                        refine lv_iload K.1 K.2.1 dX7_cover_200 (lv_at hl 5 rfl) ?_
                        refine lv_iload_n K.1 K.2.1 dX7_cover_202 rfl (lv_at hl 1 rfl) ?_
                        refine g_ri K hG [0, 1, 4] rfl (g_runV (As := [.int v3_72e, .int v5_173, .int x1]) (rest := [.int v5_173, .ref a_this_isNear]) K hG hl [0, 1, 4] rfl rfl 0 rfl rfl (k_X7_near l dC dI cI cJ cZ cG H.size a_this a_this_lows a_this_highs a_this_rights a_this_terms a_this_costs a_this_froms a_this_tos a_this_planPoint a_this_planScore a_this_frontPlan a_this_frontTies a_this_pick a_this_end a_this_point a_this_score a_this_by a_this_four a_this_isNear a_this_number a_this_numbers a_this_place a_this_was c_this_aims c_this_columns c_this_front c_this_frontPlan c_this_gone c_this_hasClimbed c_this_picks_60 c_this_planScore c_this_plans c_this_rows v3_72e v5_173 x1 _ hw) (cwV 3 K.2.2.2.2.1 gX7_cover_X7_near rfl rfl rfl (by decide +kernel) ⟨by decide, by decide⟩) rfl rfl (Nat.le_of_ble_eq_true rfl) ⟨Nat.zero_le _, Nat.zero_le _⟩ dX7_cover_203) (fun r_203 H locs hw hG => ?_)
                        refine lv_if_eq (tgt := 213) K.1 K.2.1 dX7_cover_206 (by decide) (fun q_206 => ?_) (fun q_206 => ?_)
                        · have hw := hw.1 q_206
                          refine lv_iconst (v := 0) K.1 K.2.1 dX7_cover_213 (by decide) ?_
                          obtain ⟨h_214, hw⟩ := hw
                          refine g_zast (ws' := [(a_this, .inr (6, [.int c_this_columns, .int c_this_rows, .int c_this_aims, .ref a_this_lows, .ref a_this_highs, .ref a_this_rights, .ref a_this_terms, .ref a_this_costs, .ref a_this_froms, .ref a_this_tos, .int c_this_gone, .int c_this_plans, .ref a_this_planPoint, .ref a_this_planScore, .int c_this_front, .ref a_this_frontPlan, .ref a_this_frontTies, .int c_this_picks_60, .ref a_this_pick, .int c_this_hasClimbed, .ref a_this_end, .ref a_this_point, .ref a_this_score, .ref a_this_by, .ref a_this_four, .ref a_this_isNear, .ref a_this_number, .ref a_this_numbers, .ref a_this_place, .ref a_this_was])), (a_this_frontPlan, .inl (cI, 2000, .inl c_this_frontPlan)), (a_this_isNear, .inl (cZ, 2000, .inl (upd c_this_isNear_173 (v5_173).toNatClampNeg (vp_nar .boolean (0 : Int32))))), (a_this_pick, .inl (cI, 2000, .inl c_this_pick_60)), (a_this_planScore, .inl (cI, 8000, .inl c_this_planScore))]) K hG 2 rfl h_214 rfl dX7_cover_214 (fun H locs hG => ?_)
                          refine lv_iinc (v := (v5_173 + (1 : Int32))) (lv' := [(5, .int (v5_173 + (1 : Int32))), (0, .ref a_this), (1, .int x1), (2, .int v2_60), (3, .int v3_72e), (4, .int v4_72e)]) K.1 K.2.1 dX7_cover_215 hl (k := 5) rfl rfl (by decide) rfl (fun ls hl => ?_)
                          refine lv_goto (tgt := 173) K.1 K.2.1 dX7_cover_218 (by decide) ?_
                          exact ih_173 (v5_173 + (1 : Int32)) (upd c_this_isNear_173 (v5_173).toNatClampNeg (vp_nar .boolean (0 : Int32))) H locs ls hw hG (lv_sub hl [1, 2, 3, 4, 5, 0] rfl)
                        · have hw := hw.2 q_206
                          refine lv_iconst (v := 1) K.1 K.2.1 dX7_cover_209 (by decide) ?_
                          refine lv_goto (tgt := 214) K.1 K.2.1 dX7_cover_210 (by decide) ?_
                          obtain ⟨h_214, hw⟩ := hw
                          refine g_zast (ws' := [(a_this, .inr (6, [.int c_this_columns, .int c_this_rows, .int c_this_aims, .ref a_this_lows, .ref a_this_highs, .ref a_this_rights, .ref a_this_terms, .ref a_this_costs, .ref a_this_froms, .ref a_this_tos, .int c_this_gone, .int c_this_plans, .ref a_this_planPoint, .ref a_this_planScore, .int c_this_front, .ref a_this_frontPlan, .ref a_this_frontTies, .int c_this_picks_60, .ref a_this_pick, .int c_this_hasClimbed, .ref a_this_end, .ref a_this_point, .ref a_this_score, .ref a_this_by, .ref a_this_four, .ref a_this_isNear, .ref a_this_number, .ref a_this_numbers, .ref a_this_place, .ref a_this_was])), (a_this_frontPlan, .inl (cI, 2000, .inl c_this_frontPlan)), (a_this_isNear, .inl (cZ, 2000, .inl (upd c_this_isNear_173 (v5_173).toNatClampNeg (vp_nar .boolean (1 : Int32))))), (a_this_pick, .inl (cI, 2000, .inl c_this_pick_60)), (a_this_planScore, .inl (cI, 8000, .inl c_this_planScore))]) K hG 2 rfl h_214 rfl dX7_cover_214 (fun H locs hG => ?_)
                          refine lv_iinc (v := (v5_173 + (1 : Int32))) (lv' := [(5, .int (v5_173 + (1 : Int32))), (0, .ref a_this), (1, .int x1), (2, .int v2_60), (3, .int v3_72e), (4, .int v4_72e)]) K.1 K.2.1 dX7_cover_215 hl (k := 5) rfl rfl (by decide) rfl (fun ls hl => ?_)
                          refine lv_goto (tgt := 173) K.1 K.2.1 dX7_cover_218 (by decide) ?_
                          exact ih_173 (v5_173 + (1 : Int32)) (upd c_this_isNear_173 (v5_173).toNatClampNeg (vp_nar .boolean (1 : Int32))) H locs ls hw hG (lv_sub hl [1, 2, 3, 4, 5, 0] rfl)
                exact hL_173 n_173 (0 : Int32) c_this_isNear_60 H locs ls hw hG (lv_sub hl [1, 2, 3, 4, 5, 0] rfl)
              have hL_72 : ∀ (n : Nat), ∀ (v3_72 : Int32) (v4_72 : Int32) (v5_72 : Int32) (H : Heap) (locs : List Loc) (ls : Array Slot), Lp3 (b_X7_cover_72 c_this_aims c_this_front c_this_frontPlan c_this_planScore x1 c_this_isNear_60 kx_72) n v3_72 v4_72 v5_72 → HW (dC, dI) A s.heap [(a_this, .inr (6, [.int c_this_columns, .int c_this_rows, .int c_this_aims, .ref a_this_lows, .ref a_this_highs, .ref a_this_rights, .ref a_this_terms, .ref a_this_costs, .ref a_this_froms, .ref a_this_tos, .int c_this_gone, .int c_this_plans, .ref a_this_planPoint, .ref a_this_planScore, .int c_this_front, .ref a_this_frontPlan, .ref a_this_frontTies, .int c_this_picks_60, .ref a_this_pick, .int c_this_hasClimbed, .ref a_this_end, .ref a_this_point, .ref a_this_score, .ref a_this_by, .ref a_this_four, .ref a_this_isNear, .ref a_this_number, .ref a_this_numbers, .ref a_this_place, .ref a_this_was])), (a_this_frontPlan, .inl (cI, 2000, .inl c_this_frontPlan)), (a_this_isNear, .inl (cZ, 2000, .inl c_this_isNear_60)), (a_this_pick, .inl (cI, 2000, .inl c_this_pick_60)), (a_this_planScore, .inl (cI, 8000, .inl c_this_planScore))] H locs → lv_has ls 8 [(0, .ref a_this), (1, .int x1), (2, .int v2_60), (3, .int v3_72), (4, .int v4_72), (5, .int v5_72)] → W p l e rm_X7_cover s m args below meth c H locs 0 0 Q (F0 m 72 ls []) := by
                intro n
                induction n with
                | zero => intro v3_72 v4_72 v5_72 H locs ls hw; exact False.elim hw
                | succ n ih_72 =>
                  intro v3_72 v4_72 v5_72 H locs ls hw hG hl
                  obtain ⟨w_72, hw_72, hw⟩ : ∃ w' : Int32 → Int32 → Int32 → Prop, (∀ v3_72 v4_72 v5_72, w' v3_72 v4_72 v5_72 → Lp3 (b_X7_cover_72 c_this_aims c_this_front c_this_frontPlan c_this_planScore x1 c_this_isNear_60 kx_72) n v3_72 v4_72 v5_72) ∧ b_X7_cover_72 c_this_aims c_this_front c_this_frontPlan c_this_planScore x1 c_this_isNear_60 kx_72 w' v3_72 v4_72 v5_72 := ⟨_, fun _ _ _ h => h, hw⟩
                  replace ih_72 : ∀ (v3_72 : Int32) (v4_72 : Int32) (v5_72 : Int32) (H : Heap) (locs : List Loc) (ls : Array Slot), w_72 v3_72 v4_72 v5_72 → HW (dC, dI) A s.heap [(a_this, .inr (6, [.int c_this_columns, .int c_this_rows, .int c_this_aims, .ref a_this_lows, .ref a_this_highs, .ref a_this_rights, .ref a_this_terms, .ref a_this_costs, .ref a_this_froms, .ref a_this_tos, .int c_this_gone, .int c_this_plans, .ref a_this_planPoint, .ref a_this_planScore, .int c_this_front, .ref a_this_frontPlan, .ref a_this_frontTies, .int c_this_picks_60, .ref a_this_pick, .int c_this_hasClimbed, .ref a_this_end, .ref a_this_point, .ref a_this_score, .ref a_this_by, .ref a_this_four, .ref a_this_isNear, .ref a_this_number, .ref a_this_numbers, .ref a_this_place, .ref a_this_was])), (a_this_frontPlan, .inl (cI, 2000, .inl c_this_frontPlan)), (a_this_isNear, .inl (cZ, 2000, .inl c_this_isNear_60)), (a_this_pick, .inl (cI, 2000, .inl c_this_pick_60)), (a_this_planScore, .inl (cI, 8000, .inl c_this_planScore))] H locs → lv_has ls 8 [(0, .ref a_this), (1, .int x1), (2, .int v2_60), (3, .int v3_72), (4, .int v4_72), (5, .int v5_72)] → W p l e rm_X7_cover s m args below meth c H locs 0 0 Q (F0 m 72 ls []) := fun v3_72 v4_72 v5_72 H locs ls h => ih_72 v3_72 v4_72 v5_72 H locs ls (hw_72 _ _ _ h)
                  unfold b_X7_cover_72 at hw
                  refine lv_iload K.1 K.2.1 dX7_cover_72 (lv_at hl 5 rfl) ?_
                  refine lv_aload_n K.1 K.2.1 dX7_cover_74 rfl (lv_at hl 0 rfl) ?_
                  refine g_get (v := .int c_this_front) K hG hin_RX7 0 rfl rfl 14 (by decide) (K.2.2.2.2.1 (.fieldLink RX7 98 "AimFrontsModel" "front" "I") (by decide +kernel)) rfl rfl dX7_cover_75 ?_
                  refine lv_icmp_ge (tgt := 170) K.1 K.2.1 dX7_cover_78 (by decide) (fun q_78 => ?_) (fun q_78 => ?_)
                  · have hw := hw.1 q_78
                    exact hX_72 v3_72 v4_72 H locs ls hw hG (lv_sub hl [0, 1, 2, 3, 4] rfl)
                  · have hw := hw.2 q_78
                    refine lv_iconst (v := 0) K.1 K.2.1 dX7_cover_81 (by decide) ?_
                    refine lv_istore (lv' := [(6, .int (0 : Int32)), (0, .ref a_this), (1, .int x1), (2, .int v2_60), (3, .int v3_72), (4, .int v4_72), (5, .int v5_72)]) K.1 K.2.1 dX7_cover_82 hl (by decide) rfl (fun ls hl => ?_)
                    refine lv_iconst (v := 0) K.1 K.2.1 dX7_cover_84 (by decide) ?_
                    refine lv_istore (lv' := [(7, .int (0 : Int32)), (6, .int (0 : Int32)), (0, .ref a_this), (1, .int x1), (2, .int v2_60), (3, .int v3_72), (4, .int v4_72), (5, .int v5_72)]) K.1 K.2.1 dX7_cover_85 hl (by decide) rfl (fun ls hl => ?_)
                    obtain ⟨kx_87, hkx_87, n_87, hw⟩ := Lx1_2_abs hw
                    have hX_87 : ∀ (v6_87e : Int32) (H : Heap) (locs : List Loc) (ls : Array Slot), kx_87 v6_87e → HW (dC, dI) A s.heap [(a_this, .inr (6, [.int c_this_columns, .int c_this_rows, .int c_this_aims, .ref a_this_lows, .ref a_this_highs, .ref a_this_rights, .ref a_this_terms, .ref a_this_costs, .ref a_this_froms, .ref a_this_tos, .int c_this_gone, .int c_this_plans, .ref a_this_planPoint, .ref a_this_planScore, .int c_this_front, .ref a_this_frontPlan, .ref a_this_frontTies, .int c_this_picks_60, .ref a_this_pick, .int c_this_hasClimbed, .ref a_this_end, .ref a_this_point, .ref a_this_score, .ref a_this_by, .ref a_this_four, .ref a_this_isNear, .ref a_this_number, .ref a_this_numbers, .ref a_this_place, .ref a_this_was])), (a_this_frontPlan, .inl (cI, 2000, .inl c_this_frontPlan)), (a_this_isNear, .inl (cZ, 2000, .inl c_this_isNear_60)), (a_this_pick, .inl (cI, 2000, .inl c_this_pick_60)), (a_this_planScore, .inl (cI, 8000, .inl c_this_planScore))] H locs → lv_has ls 8 [(0, .ref a_this), (1, .int x1), (2, .int v2_60), (3, .int v3_72), (4, .int v4_72), (5, .int v5_72), (6, .int v6_87e)] → W p l e rm_X7_cover s m args below meth c H locs 0 0 Q (F0 m 134 ls []) := by
                      intro v6_87e H locs ls hw hG hl
                      have hw := hkx_87 _ hw
                      refine lv_iload K.1 K.2.1 dX7_cover_134 (lv_at hl 6 rfl) ?_
                      refine lv_iload K.1 K.2.1 dX7_cover_136 (lv_at hl 4 rfl) ?_
                      obtain ⟨k_j147, hk_j147, hw⟩ := jn1_abs hw
                      have hJ_j147 : ∀ (s0_j147 : Int32) (H : Heap) (locs : List Loc) (ls : Array Slot), k_j147 s0_j147 → HW (dC, dI) A s.heap [(a_this, .inr (6, [.int c_this_columns, .int c_this_rows, .int c_this_aims, .ref a_this_lows, .ref a_this_highs, .ref a_this_rights, .ref a_this_terms, .ref a_this_costs, .ref a_this_froms, .ref a_this_tos, .int c_this_gone, .int c_this_plans, .ref a_this_planPoint, .ref a_this_planScore, .int c_this_front, .ref a_this_frontPlan, .ref a_this_frontTies, .int c_this_picks_60, .ref a_this_pick, .int c_this_hasClimbed, .ref a_this_end, .ref a_this_point, .ref a_this_score, .ref a_this_by, .ref a_this_four, .ref a_this_isNear, .ref a_this_number, .ref a_this_numbers, .ref a_this_place, .ref a_this_was])), (a_this_frontPlan, .inl (cI, 2000, .inl c_this_frontPlan)), (a_this_isNear, .inl (cZ, 2000, .inl c_this_isNear_60)), (a_this_pick, .inl (cI, 2000, .inl c_this_pick_60)), (a_this_planScore, .inl (cI, 8000, .inl c_this_planScore))] H locs → lv_has ls 8 [(0, .ref a_this), (1, .int x1), (2, .int v2_60), (4, .int v4_72), (5, .int v5_72), (6, .int v6_87e)] → W p l e rm_X7_cover s m args below meth c H locs 0 0 Q (F0 m 147 ls [.int s0_j147]) := by
                        intro s0_j147 H locs ls hw hG hl
                        have hw := hk_j147 _ hw
                        refine lv_istore_n (lv' := [(3, .int s0_j147), (0, .ref a_this), (1, .int x1), (2, .int v2_60), (4, .int v4_72), (5, .int v5_72), (6, .int v6_87e)]) K.1 K.2.1 dX7_cover_147 rfl hl (by decide) rfl (fun ls hl => ?_)
                        refine lv_iload K.1 K.2.1 dX7_cover_148 (lv_at hl 6 rfl) ?_
                        refine lv_iload K.1 K.2.1 dX7_cover_150 (lv_at hl 4 rfl) ?_
                        refine lv_icmp_le (tgt := 160) K.1 K.2.1 dX7_cover_152 (by decide) (fun q_152 => ?_) (fun q_152 => ?_)
                        · have hw := hw.1 q_152
                          refine lv_iload K.1 K.2.1 dX7_cover_160 (lv_at hl 4 rfl) ?_
                          refine lv_istore (lv' := [(4, .int v4_72), (3, .int s0_j147), (0, .ref a_this), (1, .int x1), (2, .int v2_60), (5, .int v5_72), (6, .int v6_87e)]) K.1 K.2.1 dX7_cover_162 hl (by decide) rfl (fun ls hl => ?_)
                          refine lv_iinc (v := (v5_72 + (1 : Int32))) (lv' := [(5, .int (v5_72 + (1 : Int32))), (4, .int v4_72), (3, .int s0_j147), (0, .ref a_this), (1, .int x1), (2, .int v2_60), (6, .int v6_87e)]) K.1 K.2.1 dX7_cover_164 hl (k := 5) rfl rfl (by decide) rfl (fun ls hl => ?_)
                          refine lv_goto (tgt := 72) K.1 K.2.1 dX7_cover_167 (by decide) ?_
                          exact ih_72 s0_j147 v4_72 (v5_72 + (1 : Int32)) H locs ls hw hG (lv_sub hl [3, 4, 5, 2, 1, 0] rfl)
                        · have hw := hw.2 q_152
                          refine lv_iload K.1 K.2.1 dX7_cover_155 (lv_at hl 6 rfl) ?_
                          refine lv_goto (tgt := 162) K.1 K.2.1 dX7_cover_157 (by decide) ?_
                          refine lv_istore (lv' := [(4, .int v6_87e), (3, .int s0_j147), (0, .ref a_this), (1, .int x1), (2, .int v2_60), (5, .int v5_72), (6, .int v6_87e)]) K.1 K.2.1 dX7_cover_162 hl (by decide) rfl (fun ls hl => ?_)
                          refine lv_iinc (v := (v5_72 + (1 : Int32))) (lv' := [(5, .int (v5_72 + (1 : Int32))), (4, .int v6_87e), (3, .int s0_j147), (0, .ref a_this), (1, .int x1), (2, .int v2_60), (6, .int v6_87e)]) K.1 K.2.1 dX7_cover_164 hl (k := 5) rfl rfl (by decide) rfl (fun ls hl => ?_)
                          refine lv_goto (tgt := 72) K.1 K.2.1 dX7_cover_167 (by decide) ?_
                          exact ih_72 s0_j147 v6_87e (v5_72 + (1 : Int32)) H locs ls hw hG (lv_sub hl [3, 4, 5, 2, 1, 0] rfl)
                      refine lv_icmp_le (tgt := 146) K.1 K.2.1 dX7_cover_138 (by decide) (fun q_138 => ?_) (fun q_138 => ?_)
                      · have hw := hw.1 q_138
                        refine lv_iload_n K.1 K.2.1 dX7_cover_146 rfl (lv_at hl 3 rfl) ?_
                        exact hJ_j147 v3_72 H locs ls hw hG (lv_sub hl [0, 1, 2, 4, 5, 6] rfl)
                      · have hw := hw.2 q_138
                        refine lv_iload K.1 K.2.1 dX7_cover_141 (lv_at hl 5 rfl) ?_
                        refine lv_goto (tgt := 147) K.1 K.2.1 dX7_cover_143 (by decide) ?_
                        exact hJ_j147 v5_72 H locs ls hw hG (lv_sub hl [0, 1, 2, 4, 5, 6] rfl)
                    have hL_87 : ∀ (n : Nat), ∀ (v6_87 : Int32) (v7_87 : Int32) (H : Heap) (locs : List Loc) (ls : Array Slot), Lp2 (b_X7_cover_87 c_this_aims c_this_front c_this_frontPlan c_this_planScore x1 c_this_isNear_60 v5_72 kx_87) n v6_87 v7_87 → HW (dC, dI) A s.heap [(a_this, .inr (6, [.int c_this_columns, .int c_this_rows, .int c_this_aims, .ref a_this_lows, .ref a_this_highs, .ref a_this_rights, .ref a_this_terms, .ref a_this_costs, .ref a_this_froms, .ref a_this_tos, .int c_this_gone, .int c_this_plans, .ref a_this_planPoint, .ref a_this_planScore, .int c_this_front, .ref a_this_frontPlan, .ref a_this_frontTies, .int c_this_picks_60, .ref a_this_pick, .int c_this_hasClimbed, .ref a_this_end, .ref a_this_point, .ref a_this_score, .ref a_this_by, .ref a_this_four, .ref a_this_isNear, .ref a_this_number, .ref a_this_numbers, .ref a_this_place, .ref a_this_was])), (a_this_frontPlan, .inl (cI, 2000, .inl c_this_frontPlan)), (a_this_isNear, .inl (cZ, 2000, .inl c_this_isNear_60)), (a_this_pick, .inl (cI, 2000, .inl c_this_pick_60)), (a_this_planScore, .inl (cI, 8000, .inl c_this_planScore))] H locs → lv_has ls 8 [(0, .ref a_this), (1, .int x1), (2, .int v2_60), (3, .int v3_72), (4, .int v4_72), (5, .int v5_72), (6, .int v6_87), (7, .int v7_87)] → W p l e rm_X7_cover s m args below meth c H locs 0 0 Q (F0 m 87 ls []) := by
                      intro n
                      induction n with
                      | zero => intro v6_87 v7_87 H locs ls hw; exact False.elim hw
                      | succ n ih_87 =>
                        intro v6_87 v7_87 H locs ls hw hG hl
                        obtain ⟨w_87, hw_87, hw⟩ : ∃ w' : Int32 → Int32 → Prop, (∀ v6_87 v7_87, w' v6_87 v7_87 → Lp2 (b_X7_cover_87 c_this_aims c_this_front c_this_frontPlan c_this_planScore x1 c_this_isNear_60 v5_72 kx_87) n v6_87 v7_87) ∧ b_X7_cover_87 c_this_aims c_this_front c_this_frontPlan c_this_planScore x1 c_this_isNear_60 v5_72 kx_87 w' v6_87 v7_87 := ⟨_, fun _ _ h => h, hw⟩
                        replace ih_87 : ∀ (v6_87 : Int32) (v7_87 : Int32) (H : Heap) (locs : List Loc) (ls : Array Slot), w_87 v6_87 v7_87 → HW (dC, dI) A s.heap [(a_this, .inr (6, [.int c_this_columns, .int c_this_rows, .int c_this_aims, .ref a_this_lows, .ref a_this_highs, .ref a_this_rights, .ref a_this_terms, .ref a_this_costs, .ref a_this_froms, .ref a_this_tos, .int c_this_gone, .int c_this_plans, .ref a_this_planPoint, .ref a_this_planScore, .int c_this_front, .ref a_this_frontPlan, .ref a_this_frontTies, .int c_this_picks_60, .ref a_this_pick, .int c_this_hasClimbed, .ref a_this_end, .ref a_this_point, .ref a_this_score, .ref a_this_by, .ref a_this_four, .ref a_this_isNear, .ref a_this_number, .ref a_this_numbers, .ref a_this_place, .ref a_this_was])), (a_this_frontPlan, .inl (cI, 2000, .inl c_this_frontPlan)), (a_this_isNear, .inl (cZ, 2000, .inl c_this_isNear_60)), (a_this_pick, .inl (cI, 2000, .inl c_this_pick_60)), (a_this_planScore, .inl (cI, 8000, .inl c_this_planScore))] H locs → lv_has ls 8 [(0, .ref a_this), (1, .int x1), (2, .int v2_60), (3, .int v3_72), (4, .int v4_72), (5, .int v5_72), (6, .int v6_87), (7, .int v7_87)] → W p l e rm_X7_cover s m args below meth c H locs 0 0 Q (F0 m 87 ls []) := fun v6_87 v7_87 H locs ls h => ih_87 v6_87 v7_87 H locs ls (hw_87 _ _ h)
                        unfold b_X7_cover_87 at hw
                        refine lv_iload K.1 K.2.1 dX7_cover_87 (lv_at hl 7 rfl) ?_
                        refine lv_aload_n K.1 K.2.1 dX7_cover_89 rfl (lv_at hl 0 rfl) ?_
                        refine g_get (v := .int c_this_front) K hG hin_RX7 0 rfl rfl 14 (by decide) (K.2.2.2.2.1 (.fieldLink RX7 98 "AimFrontsModel" "front" "I") (by decide +kernel)) rfl rfl dX7_cover_90 ?_
                        refine lv_icmp_ge (tgt := 134) K.1 K.2.1 dX7_cover_93 (by decide) (fun q_93 => ?_) (fun q_93 => ?_)
                        · have hw := hw.1 q_93
                          exact hX_87 v6_87 H locs ls hw hG (lv_sub hl [0, 1, 2, 3, 4, 5, 6] rfl)
                        · have hw := hw.2 q_93
                          refine lv_iload K.1 K.2.1 dX7_cover_96 (lv_at hl 6 rfl) ?_
                          refine lv_aload_n K.1 K.2.1 dX7_cover_98 rfl (lv_at hl 0 rfl) ?_
                          refine g_get (v := .ref a_this_isNear) K hG hin_RX7 0 rfl rfl 25 (by decide) (K.2.2.2.2.1 (.fieldLink RX7 62 "AimFrontsModel" "isNear" "[Z") (by decide +kernel)) rfl rfl dX7_cover_99 ?_
                          refine lv_iload K.1 K.2.1 dX7_cover_102 (lv_at hl 7 rfl) ?_
                          obtain ⟨h_104, hw⟩ := hw
                          refine g_zald K hG 2 rfl h_104 dX7_cover_104 ?_
                          refine lv_if_ne (tgt := 124) K.1 K.2.1 dX7_cover_105 (by decide) (fun q_105 => ?_) (fun q_105 => ?_)
                          · have hw := hw.2 q_105
                            refine lv_iconst (v := 0) K.1 K.2.1 dX7_cover_124 (by decide) ?_
                            refine lv_iadd K.1 K.2.1 dX7_cover_125 ?_
                            refine lv_istore (lv' := [(6, .int (v6_87 + (0 : Int32))), (0, .ref a_this), (1, .int x1), (2, .int v2_60), (3, .int v3_72), (4, .int v4_72), (5, .int v5_72), (7, .int v7_87)]) K.1 K.2.1 dX7_cover_126 hl (by decide) rfl (fun ls hl => ?_)
                            refine lv_iinc (v := (v7_87 + (1 : Int32))) (lv' := [(7, .int (v7_87 + (1 : Int32))), (6, .int (v6_87 + (0 : Int32))), (0, .ref a_this), (1, .int x1), (2, .int v2_60), (3, .int v3_72), (4, .int v4_72), (5, .int v5_72)]) K.1 K.2.1 dX7_cover_128 hl (k := 7) rfl rfl (by decide) rfl (fun ls hl => ?_)
                            refine lv_goto (tgt := 87) K.1 K.2.1 dX7_cover_131 (by decide) ?_
                            exact ih_87 (v6_87 + (0 : Int32)) (v7_87 + (1 : Int32)) H locs ls hw hG (lv_sub hl [2, 3, 4, 5, 6, 7, 1, 0] rfl)
                          · have hw := hw.1 q_105
                            refine lv_aload_n K.1 K.2.1 dX7_cover_108 rfl (lv_at hl 0 rfl) ?_
                            refine lv_iload K.1 K.2.1 dX7_cover_109 (lv_at hl 5 rfl) ?_
                            refine lv_iload K.1 K.2.1 dX7_cover_111 (lv_at hl 7 rfl) ?_
                            refine lv_iload_n K.1 K.2.1 dX7_cover_113 rfl (lv_at hl 1 rfl) ?_
                            refine g_ri K hG [0, 1, 4] rfl (g_runV (As := [.int v5_72, .int v7_87, .int x1]) (rest := [.int v6_87]) K hG hl [0, 1, 4] rfl rfl 0 rfl rfl (k_X7_near l dC dI cI cJ cZ cG H.size a_this a_this_lows a_this_highs a_this_rights a_this_terms a_this_costs a_this_froms a_this_tos a_this_planPoint a_this_planScore a_this_frontPlan a_this_frontTies a_this_pick a_this_end a_this_point a_this_score a_this_by a_this_four a_this_isNear a_this_number a_this_numbers a_this_place a_this_was c_this_aims c_this_columns c_this_front c_this_frontPlan c_this_gone c_this_hasClimbed c_this_picks_60 c_this_planScore c_this_plans c_this_rows v5_72 v7_87 x1 _ hw) (cwV 3 K.2.2.2.2.1 gX7_cover_X7_near rfl rfl rfl (by decide +kernel) ⟨by decide, by decide⟩) rfl rfl (Nat.le_of_ble_eq_true rfl) ⟨Nat.zero_le _, Nat.zero_le _⟩ dX7_cover_114) (fun r_114 H locs hw hG => ?_)
                            refine lv_if_eq (tgt := 124) K.1 K.2.1 dX7_cover_117 (by decide) (fun q_117 => ?_) (fun q_117 => ?_)
                            · have hw := hw.1 q_117
                              refine lv_iconst (v := 0) K.1 K.2.1 dX7_cover_124 (by decide) ?_
                              refine lv_iadd K.1 K.2.1 dX7_cover_125 ?_
                              refine lv_istore (lv' := [(6, .int (v6_87 + (0 : Int32))), (0, .ref a_this), (1, .int x1), (2, .int v2_60), (3, .int v3_72), (4, .int v4_72), (5, .int v5_72), (7, .int v7_87)]) K.1 K.2.1 dX7_cover_126 hl (by decide) rfl (fun ls hl => ?_)
                              refine lv_iinc (v := (v7_87 + (1 : Int32))) (lv' := [(7, .int (v7_87 + (1 : Int32))), (6, .int (v6_87 + (0 : Int32))), (0, .ref a_this), (1, .int x1), (2, .int v2_60), (3, .int v3_72), (4, .int v4_72), (5, .int v5_72)]) K.1 K.2.1 dX7_cover_128 hl (k := 7) rfl rfl (by decide) rfl (fun ls hl => ?_)
                              refine lv_goto (tgt := 87) K.1 K.2.1 dX7_cover_131 (by decide) ?_
                              exact ih_87 (v6_87 + (0 : Int32)) (v7_87 + (1 : Int32)) H locs ls hw hG (lv_sub hl [2, 3, 4, 5, 6, 7, 1, 0] rfl)
                            · have hw := hw.2 q_117
                              refine lv_iconst (v := 1) K.1 K.2.1 dX7_cover_120 (by decide) ?_
                              refine lv_goto (tgt := 125) K.1 K.2.1 dX7_cover_121 (by decide) ?_
                              refine lv_iadd K.1 K.2.1 dX7_cover_125 ?_
                              refine lv_istore (lv' := [(6, .int (v6_87 + (1 : Int32))), (0, .ref a_this), (1, .int x1), (2, .int v2_60), (3, .int v3_72), (4, .int v4_72), (5, .int v5_72), (7, .int v7_87)]) K.1 K.2.1 dX7_cover_126 hl (by decide) rfl (fun ls hl => ?_)
                              refine lv_iinc (v := (v7_87 + (1 : Int32))) (lv' := [(7, .int (v7_87 + (1 : Int32))), (6, .int (v6_87 + (1 : Int32))), (0, .ref a_this), (1, .int x1), (2, .int v2_60), (3, .int v3_72), (4, .int v4_72), (5, .int v5_72)]) K.1 K.2.1 dX7_cover_128 hl (k := 7) rfl rfl (by decide) rfl (fun ls hl => ?_)
                              refine lv_goto (tgt := 87) K.1 K.2.1 dX7_cover_131 (by decide) ?_
                              exact ih_87 (v6_87 + (1 : Int32)) (v7_87 + (1 : Int32)) H locs ls hw hG (lv_sub hl [2, 3, 4, 5, 6, 7, 1, 0] rfl)
                    exact hL_87 n_87 (0 : Int32) (0 : Int32) H locs ls hw hG (lv_sub hl [2, 3, 4, 5, 6, 7, 1, 0] rfl)
              exact hL_72 n_72 (0 : Int32) (0 : Int32) (0 : Int32) H locs ls hw hG (lv_sub hl [3, 4, 5, 2, 1, 0] rfl)
        exact hL_60 n_60 c_this_front c_this_isNear_29e c_this_pick (0 : Int32) H locs ls hw hG (lv_sub hl [1, 2, 0] rfl)
      have hL_29 : ∀ (n : Nat), ∀ (v2_29 : Int32) (c_this_isNear_29 : Nat → Int32) (H : Heap) (locs : List Loc) (ls : Array Slot), Lp2 (b_X7_cover_29 c_this_front kx_29) n v2_29 c_this_isNear_29 → HW (dC, dI) A s.heap [(a_this, .inr (6, [.int c_this_columns, .int c_this_rows, .int c_this_aims, .ref a_this_lows, .ref a_this_highs, .ref a_this_rights, .ref a_this_terms, .ref a_this_costs, .ref a_this_froms, .ref a_this_tos, .int c_this_gone, .int c_this_plans, .ref a_this_planPoint, .ref a_this_planScore, .int c_this_front, .ref a_this_frontPlan, .ref a_this_frontTies, .int c_this_picks, .ref a_this_pick, .int c_this_hasClimbed, .ref a_this_end, .ref a_this_point, .ref a_this_score, .ref a_this_by, .ref a_this_four, .ref a_this_isNear, .ref a_this_number, .ref a_this_numbers, .ref a_this_place, .ref a_this_was])), (a_this_frontPlan, .inl (cI, 2000, .inl c_this_frontPlan)), (a_this_isNear, .inl (cZ, 2000, .inl c_this_isNear_29)), (a_this_pick, .inl (cI, 2000, .inl c_this_pick)), (a_this_planScore, .inl (cI, 8000, .inl c_this_planScore))] H locs → lv_has ls 8 [(0, .ref a_this), (1, .int x1), (2, .int v2_29)] → W p l e rm_X7_cover s m args below meth c H locs 0 0 Q (F0 m 29 ls []) := by
        intro n
        induction n with
        | zero => intro v2_29 c_this_isNear_29 H locs ls hw; exact False.elim hw
        | succ n ih_29 =>
          intro v2_29 c_this_isNear_29 H locs ls hw hG hl
          obtain ⟨w_29, hw_29, hw⟩ : ∃ w' : Int32 → (Nat → Int32) → Prop, (∀ v2_29 c_this_isNear_29, w' v2_29 c_this_isNear_29 → Lp2 (b_X7_cover_29 c_this_front kx_29) n v2_29 c_this_isNear_29) ∧ b_X7_cover_29 c_this_front kx_29 w' v2_29 c_this_isNear_29 := ⟨_, fun _ _ h => h, hw⟩
          replace ih_29 : ∀ (v2_29 : Int32) (c_this_isNear_29 : Nat → Int32) (H : Heap) (locs : List Loc) (ls : Array Slot), w_29 v2_29 c_this_isNear_29 → HW (dC, dI) A s.heap [(a_this, .inr (6, [.int c_this_columns, .int c_this_rows, .int c_this_aims, .ref a_this_lows, .ref a_this_highs, .ref a_this_rights, .ref a_this_terms, .ref a_this_costs, .ref a_this_froms, .ref a_this_tos, .int c_this_gone, .int c_this_plans, .ref a_this_planPoint, .ref a_this_planScore, .int c_this_front, .ref a_this_frontPlan, .ref a_this_frontTies, .int c_this_picks, .ref a_this_pick, .int c_this_hasClimbed, .ref a_this_end, .ref a_this_point, .ref a_this_score, .ref a_this_by, .ref a_this_four, .ref a_this_isNear, .ref a_this_number, .ref a_this_numbers, .ref a_this_place, .ref a_this_was])), (a_this_frontPlan, .inl (cI, 2000, .inl c_this_frontPlan)), (a_this_isNear, .inl (cZ, 2000, .inl c_this_isNear_29)), (a_this_pick, .inl (cI, 2000, .inl c_this_pick)), (a_this_planScore, .inl (cI, 8000, .inl c_this_planScore))] H locs → lv_has ls 8 [(0, .ref a_this), (1, .int x1), (2, .int v2_29)] → W p l e rm_X7_cover s m args below meth c H locs 0 0 Q (F0 m 29 ls []) := fun v2_29 c_this_isNear_29 H locs ls h => ih_29 v2_29 c_this_isNear_29 H locs ls (hw_29 _ _ h)
          unfold b_X7_cover_29 at hw
          refine lv_iload_n K.1 K.2.1 dX7_cover_29 rfl (lv_at hl 2 rfl) ?_
          refine lv_aload_n K.1 K.2.1 dX7_cover_30 rfl (lv_at hl 0 rfl) ?_
          refine g_get (v := .int c_this_front) K hG hin_RX7 0 rfl rfl 14 (by decide) (K.2.2.2.2.1 (.fieldLink RX7 98 "AimFrontsModel" "front" "I") (by decide +kernel)) rfl rfl dX7_cover_31 ?_
          refine lv_icmp_ge (tgt := 50) K.1 K.2.1 dX7_cover_34 (by decide) (fun q_34 => ?_) (fun q_34 => ?_)
          · have hw := hw.1 q_34
            exact hX_29 c_this_isNear_29 H locs ls hw hG (lv_sub hl [0, 1] rfl)
          · have hw := hw.2 q_34
            refine lv_aload_n K.1 K.2.1 dX7_cover_37 rfl (lv_at hl 0 rfl) ?_
            refine g_get (v := .ref a_this_isNear) K hG hin_RX7 0 rfl rfl 25 (by decide) (K.2.2.2.2.1 (.fieldLink RX7 62 "AimFrontsModel" "isNear" "[Z") (by decide +kernel)) rfl rfl dX7_cover_38 ?_
            refine lv_iload_n K.1 K.2.1 dX7_cover_41 rfl (lv_at hl 2 rfl) ?_
            refine lv_iconst (v := 0) K.1 K.2.1 dX7_cover_42 (by decide) ?_
            obtain ⟨h_43, hw⟩ := hw
            refine g_zast (ws' := [(a_this, .inr (6, [.int c_this_columns, .int c_this_rows, .int c_this_aims, .ref a_this_lows, .ref a_this_highs, .ref a_this_rights, .ref a_this_terms, .ref a_this_costs, .ref a_this_froms, .ref a_this_tos, .int c_this_gone, .int c_this_plans, .ref a_this_planPoint, .ref a_this_planScore, .int c_this_front, .ref a_this_frontPlan, .ref a_this_frontTies, .int c_this_picks, .ref a_this_pick, .int c_this_hasClimbed, .ref a_this_end, .ref a_this_point, .ref a_this_score, .ref a_this_by, .ref a_this_four, .ref a_this_isNear, .ref a_this_number, .ref a_this_numbers, .ref a_this_place, .ref a_this_was])), (a_this_frontPlan, .inl (cI, 2000, .inl c_this_frontPlan)), (a_this_isNear, .inl (cZ, 2000, .inl (upd c_this_isNear_29 (v2_29).toNatClampNeg (vp_nar .boolean (0 : Int32))))), (a_this_pick, .inl (cI, 2000, .inl c_this_pick)), (a_this_planScore, .inl (cI, 8000, .inl c_this_planScore))]) K hG 2 rfl h_43 rfl dX7_cover_43 (fun H locs hG => ?_)
            refine lv_iinc (v := (v2_29 + (1 : Int32))) (lv' := [(2, .int (v2_29 + (1 : Int32))), (0, .ref a_this), (1, .int x1)]) K.1 K.2.1 dX7_cover_44 hl (k := 2) rfl rfl (by decide) rfl (fun ls hl => ?_)
            refine lv_goto (tgt := 29) K.1 K.2.1 dX7_cover_47 (by decide) ?_
            exact ih_29 (v2_29 + (1 : Int32)) (upd c_this_isNear_29 (v2_29).toNatClampNeg (vp_nar .boolean (0 : Int32))) H locs ls hw hG (lv_sub hl [1, 2, 0] rfl)
      exact hL_29 n_29 (0 : Int32) c_this_isNear H locs ls hw hG (lv_sub hl [1, 2, 0] rfl)
    · have hw := hw.2 q_21
      refine lv_ldc (v := -1000002) K.1 K.2.1 K.2.2.2.1 (K.2.2.2.2.1 (.constant RX7 161 (-1000002)) (by decide +kernel)) dX7_cover_24 ?_
      exact hret (-1000002 : Int32) (c_this_isNear, c_this_pick, c_this_picks) H locs _ ls dX7_cover_26 rfl hw hG
  · have hw := hw.1 q_9
    refine lv_ldc (v := -1000001) K.1 K.2.1 K.2.2.2.1 (K.2.2.2.2.1 (.constant RX7 112 (-1000001)) (by decide +kernel)) dX7_cover_12 ?_
    exact hret (-1000001 : Int32) (c_this_isNear, c_this_pick, c_this_picks) H locs _ ls dX7_cover_14 rfl hw hG
abbrev rm_X7_picked : Room := { frames := 1, cells := 0, slots := 0, locals := 25 }
set_option maxHeartbeats 4000000 in
set_option maxRecDepth 100000 in
theorem k_X7_picked (l : Launch) (dC : Nat → ClassId) (dI : Nat → Nat → Nat) (cI cJ cZ cG : ClassId) (sz : Nat) (a_this a_this_lows a_this_highs a_this_rights a_this_terms a_this_costs a_this_froms a_this_tos a_this_planPoint a_this_planScore a_this_frontPlan a_this_frontTies a_this_pick a_this_end a_this_point a_this_score a_this_by a_this_four a_this_isNear a_this_number a_this_numbers a_this_place a_this_was : Nat) (c_this_aims : Int32) (c_this_columns : Int32) (c_this_front : Int32) (c_this_gone : Int32) (c_this_hasClimbed : Int32) (c_this_pick : Nat → Int32) (c_this_picks : Int32) (c_this_plans : Int32) (c_this_rows : Int32) (x1 : Int32) (post : Int32 → Prop) (hw : wp_X7_picked c_this_pick c_this_picks x1 post) : MetI l yX7_picked wsX7_picked rm_X7_picked (dC, dI) cI cJ cZ cG [.ref a_this, .int x1] sz [(a_this, .inr (6, [.int c_this_columns, .int c_this_rows, .int c_this_aims, .ref a_this_lows, .ref a_this_highs, .ref a_this_rights, .ref a_this_terms, .ref a_this_costs, .ref a_this_froms, .ref a_this_tos, .int c_this_gone, .int c_this_plans, .ref a_this_planPoint, .ref a_this_planScore, .int c_this_front, .ref a_this_frontPlan, .ref a_this_frontTies, .int c_this_picks, .ref a_this_pick, .int c_this_hasClimbed, .ref a_this_end, .ref a_this_point, .ref a_this_score, .ref a_this_by, .ref a_this_four, .ref a_this_isNear, .ref a_this_number, .ref a_this_numbers, .ref a_this_place, .ref a_this_was])), (a_this_pick, .inl (cI, 2000, .inl c_this_pick))] (fun (r : Int32) (u : Unit) => post r) (fun u => [(a_this, .inr (6, [.int c_this_columns, .int c_this_rows, .int c_this_aims, .ref a_this_lows, .ref a_this_highs, .ref a_this_rights, .ref a_this_terms, .ref a_this_costs, .ref a_this_froms, .ref a_this_tos, .int c_this_gone, .int c_this_plans, .ref a_this_planPoint, .ref a_this_planScore, .int c_this_front, .ref a_this_frontPlan, .ref a_this_frontTies, .int c_this_picks, .ref a_this_pick, .int c_this_hasClimbed, .ref a_this_end, .ref a_this_point, .ref a_this_score, .ref a_this_by, .ref a_this_four, .ref a_this_isNear, .ref a_this_number, .ref a_this_numbers, .ref a_this_place, .ref a_this_was])), (a_this_pick, .inl (cI, 2000, .inl c_this_pick))]) := by
  refine met_i (ty := .int) (Or.inl rfl) (cc := cX7_picked) (maxL := 2) (by decide) rfl (Nat.le_of_ble_eq_true rfl) ?_
  intro p e s m args below meth c A Q H locs ls K hG hl hret
  have hl : lv_has ls 2 [(0, .ref a_this), (1, .int x1)] := hl
  have hin_RX7 : ∀ w ∈ u_ws RX7 TX7 30, w ∈ wsX7_picked := by decide +kernel
  unfold wp_X7_picked at hw
  refine lv_iload_n K.1 K.2.1 dX7_picked_0 rfl (lv_at hl 1 rfl) ?_
  refine lv_i2l K.1 K.2.1 dX7_picked_1 rfl ?_
  refine lv_lconst (v := 0) K.1 K.2.1 dX7_picked_2 (by decide) ?_
  refine lv_aload_n K.1 K.2.1 dX7_picked_3 rfl (lv_at hl 0 rfl) ?_
  refine g_get (v := .int c_this_picks) K hG hin_RX7 0 rfl rfl 17 (by decide) (K.2.2.2.2.1 (.fieldLink RX7 101 "AimFrontsModel" "picks" "I") (by decide +kernel)) rfl rfl dX7_picked_4 ?_
  refine lv_iconst (v := 1) K.1 K.2.1 dX7_picked_7 (by decide) ?_
  refine lv_isub K.1 K.2.1 dX7_picked_8 ?_
  refine lv_i2l K.1 K.2.1 dX7_picked_9 rfl ?_
  refine g_ri K hG [] rfl (g_runS (As := [.long (x1.toInt64), .long (0 : Int64), .long (((c_this_picks - (1 : Int32))).toInt64)]) (rest := []) K hG hl [] rfl rfl (k_X7_in l dC dI cI cJ cZ cG H.size (x1.toInt64) (0 : Int64) (((c_this_picks - (1 : Int32))).toInt64) _ hw) (va_cwS 3 K.2.2.2.2.1 gX7_picked_X7_in rfl rfl rfl (by decide +kernel) ⟨by decide, by decide⟩) rfl rfl (Nat.le_of_ble_eq_true rfl) ⟨Nat.zero_le _, Nat.zero_le _⟩ dX7_picked_10) (fun r_10 H locs hw hG => ?_)
  refine lv_if_eq (tgt := 25) K.1 K.2.1 dX7_picked_13 (by decide) (fun q_13 => ?_) (fun q_13 => ?_)
  · have hw := hw.1 q_13
    refine lv_ldc (v := -1000001) K.1 K.2.1 K.2.2.2.1 (K.2.2.2.2.1 (.constant RX7 112 (-1000001)) (by decide +kernel)) dX7_picked_25 ?_
    exact hret (-1000001 : Int32) () H locs _ ls dX7_picked_27 rfl hw hG
  · have hw := hw.2 q_13
    refine lv_aload_n K.1 K.2.1 dX7_picked_16 rfl (lv_at hl 0 rfl) ?_
    refine g_get (v := .ref a_this_pick) K hG hin_RX7 0 rfl rfl 18 (by decide) (K.2.2.2.2.1 (.fieldLink RX7 43 "AimFrontsModel" "pick" "[I") (by decide +kernel)) rfl rfl dX7_picked_17 ?_
    refine lv_iload_n K.1 K.2.1 dX7_picked_20 rfl (lv_at hl 1 rfl) ?_
    obtain ⟨h_21, hw⟩ := hw
    refine g_iald K hG 1 rfl h_21 dX7_picked_21 ?_
    refine lv_goto (tgt := 27) K.1 K.2.1 dX7_picked_22 (by decide) ?_
    exact hret (c_this_pick (x1).toNatClampNeg) () H locs _ ls dX7_picked_27 rfl hw hG
abbrev rm_X7_next : Room := { frames := 2, cells := 0, slots := 0, locals := 44 }
set_option maxHeartbeats 4000000 in
set_option maxRecDepth 100000 in
theorem k_X7_next (l : Launch) (dC : Nat → ClassId) (dI : Nat → Nat → Nat) (cI cJ cZ cG : ClassId) (sz : Nat) (a_this a_this_lows a_this_highs a_this_rights a_this_terms a_this_costs a_this_froms a_this_tos a_this_planPoint a_this_planScore a_this_frontPlan a_this_frontTies a_this_pick a_this_end a_this_point a_this_score a_this_by a_this_four a_this_isNear a_this_number a_this_numbers a_this_place a_this_was : Nat) (c_this_aims : Int32) (c_this_columns : Int32) (c_this_front : Int32) (c_this_frontPlan : Nat → Int32) (c_this_gone : Int32) (c_this_hasClimbed : Int32) (c_this_picks : Int32) (c_this_planScore : Nat → Int32) (c_this_plans : Int32) (c_this_rows : Int32) (x1 : Int32) (x2 : Int32) (x3 : Int32) (post : Int32 → Prop) (hw : wp_X7_next c_this_front c_this_frontPlan c_this_planScore x1 x2 x3 post) : MetI l yX7_next wsX7_next rm_X7_next (dC, dI) cI cJ cZ cG [.ref a_this, .int x1, .int x2, .int x3] sz [(a_this, .inr (6, [.int c_this_columns, .int c_this_rows, .int c_this_aims, .ref a_this_lows, .ref a_this_highs, .ref a_this_rights, .ref a_this_terms, .ref a_this_costs, .ref a_this_froms, .ref a_this_tos, .int c_this_gone, .int c_this_plans, .ref a_this_planPoint, .ref a_this_planScore, .int c_this_front, .ref a_this_frontPlan, .ref a_this_frontTies, .int c_this_picks, .ref a_this_pick, .int c_this_hasClimbed, .ref a_this_end, .ref a_this_point, .ref a_this_score, .ref a_this_by, .ref a_this_four, .ref a_this_isNear, .ref a_this_number, .ref a_this_numbers, .ref a_this_place, .ref a_this_was])), (a_this_frontPlan, .inl (cI, 2000, .inl c_this_frontPlan)), (a_this_planScore, .inl (cI, 8000, .inl c_this_planScore))] (fun (r : Int32) (u : Unit) => post r) (fun u => [(a_this, .inr (6, [.int c_this_columns, .int c_this_rows, .int c_this_aims, .ref a_this_lows, .ref a_this_highs, .ref a_this_rights, .ref a_this_terms, .ref a_this_costs, .ref a_this_froms, .ref a_this_tos, .int c_this_gone, .int c_this_plans, .ref a_this_planPoint, .ref a_this_planScore, .int c_this_front, .ref a_this_frontPlan, .ref a_this_frontTies, .int c_this_picks, .ref a_this_pick, .int c_this_hasClimbed, .ref a_this_end, .ref a_this_point, .ref a_this_score, .ref a_this_by, .ref a_this_four, .ref a_this_isNear, .ref a_this_number, .ref a_this_numbers, .ref a_this_place, .ref a_this_was])), (a_this_frontPlan, .inl (cI, 2000, .inl c_this_frontPlan)), (a_this_planScore, .inl (cI, 8000, .inl c_this_planScore))]) := by
  refine met_i (ty := .int) (Or.inl rfl) (cc := cX7_next) (maxL := 6) (by decide) rfl (Nat.le_of_ble_eq_true rfl) ?_
  intro p e s m args below meth c A Q H locs ls K hG hl hret
  have hl : lv_has ls 6 [(0, .ref a_this), (1, .int x1), (2, .int x2), (3, .int x3)] := hl
  have hin_RX7 : ∀ w ∈ u_ws RX7 TX7 30, w ∈ wsX7_next := by decide +kernel
  unfold wp_X7_next at hw
  refine lv_iload_n K.1 K.2.1 dX7_next_0 rfl (lv_at hl 3 rfl) ?_
  refine lv_istore (lv' := [(4, .int x3), (0, .ref a_this), (1, .int x1), (2, .int x2), (3, .int x3)]) K.1 K.2.1 dX7_next_1 hl (by decide) rfl (fun ls hl => ?_)
  refine lv_iconst (v := 0) K.1 K.2.1 dX7_next_3 (by decide) ?_
  refine lv_istore (lv' := [(5, .int (0 : Int32)), (4, .int x3), (0, .ref a_this), (1, .int x1), (2, .int x2), (3, .int x3)]) K.1 K.2.1 dX7_next_4 hl (by decide) rfl (fun ls hl => ?_)
  obtain ⟨kx_6, hkx_6, n_6, hw⟩ := Lx1_2_abs hw
  have hX_6 : ∀ (v4_6e : Int32) (H : Heap) (locs : List Loc) (ls : Array Slot), kx_6 v4_6e → HW (dC, dI) A s.heap [(a_this, .inr (6, [.int c_this_columns, .int c_this_rows, .int c_this_aims, .ref a_this_lows, .ref a_this_highs, .ref a_this_rights, .ref a_this_terms, .ref a_this_costs, .ref a_this_froms, .ref a_this_tos, .int c_this_gone, .int c_this_plans, .ref a_this_planPoint, .ref a_this_planScore, .int c_this_front, .ref a_this_frontPlan, .ref a_this_frontTies, .int c_this_picks, .ref a_this_pick, .int c_this_hasClimbed, .ref a_this_end, .ref a_this_point, .ref a_this_score, .ref a_this_by, .ref a_this_four, .ref a_this_isNear, .ref a_this_number, .ref a_this_numbers, .ref a_this_place, .ref a_this_was])), (a_this_frontPlan, .inl (cI, 2000, .inl c_this_frontPlan)), (a_this_planScore, .inl (cI, 8000, .inl c_this_planScore))] H locs → lv_has ls 6 [(4, .int v4_6e)] → W p l e rm_X7_next s m args below meth c H locs 0 0 Q (F0 m 58 ls []) := by
    intro v4_6e H locs ls hw hG hl
    have hw := hkx_6 _ hw
    refine lv_iload K.1 K.2.1 dX7_next_58 (lv_at hl 0 rfl) ?_
    exact hret v4_6e () H locs _ ls dX7_next_60 rfl hw hG
  have hL_6 : ∀ (n : Nat), ∀ (v4_6 : Int32) (v5_6 : Int32) (H : Heap) (locs : List Loc) (ls : Array Slot), Lp2 (b_X7_next_6 c_this_front c_this_frontPlan c_this_planScore x1 x2 kx_6) n v4_6 v5_6 → HW (dC, dI) A s.heap [(a_this, .inr (6, [.int c_this_columns, .int c_this_rows, .int c_this_aims, .ref a_this_lows, .ref a_this_highs, .ref a_this_rights, .ref a_this_terms, .ref a_this_costs, .ref a_this_froms, .ref a_this_tos, .int c_this_gone, .int c_this_plans, .ref a_this_planPoint, .ref a_this_planScore, .int c_this_front, .ref a_this_frontPlan, .ref a_this_frontTies, .int c_this_picks, .ref a_this_pick, .int c_this_hasClimbed, .ref a_this_end, .ref a_this_point, .ref a_this_score, .ref a_this_by, .ref a_this_four, .ref a_this_isNear, .ref a_this_number, .ref a_this_numbers, .ref a_this_place, .ref a_this_was])), (a_this_frontPlan, .inl (cI, 2000, .inl c_this_frontPlan)), (a_this_planScore, .inl (cI, 8000, .inl c_this_planScore))] H locs → lv_has ls 6 [(0, .ref a_this), (1, .int x1), (2, .int x2), (4, .int v4_6), (5, .int v5_6)] → W p l e rm_X7_next s m args below meth c H locs 0 0 Q (F0 m 6 ls []) := by
    intro n
    induction n with
    | zero => intro v4_6 v5_6 H locs ls hw; exact False.elim hw
    | succ n ih_6 =>
      intro v4_6 v5_6 H locs ls hw hG hl
      obtain ⟨w_6, hw_6, hw⟩ : ∃ w' : Int32 → Int32 → Prop, (∀ v4_6 v5_6, w' v4_6 v5_6 → Lp2 (b_X7_next_6 c_this_front c_this_frontPlan c_this_planScore x1 x2 kx_6) n v4_6 v5_6) ∧ b_X7_next_6 c_this_front c_this_frontPlan c_this_planScore x1 x2 kx_6 w' v4_6 v5_6 := ⟨_, fun _ _ h => h, hw⟩
      replace ih_6 : ∀ (v4_6 : Int32) (v5_6 : Int32) (H : Heap) (locs : List Loc) (ls : Array Slot), w_6 v4_6 v5_6 → HW (dC, dI) A s.heap [(a_this, .inr (6, [.int c_this_columns, .int c_this_rows, .int c_this_aims, .ref a_this_lows, .ref a_this_highs, .ref a_this_rights, .ref a_this_terms, .ref a_this_costs, .ref a_this_froms, .ref a_this_tos, .int c_this_gone, .int c_this_plans, .ref a_this_planPoint, .ref a_this_planScore, .int c_this_front, .ref a_this_frontPlan, .ref a_this_frontTies, .int c_this_picks, .ref a_this_pick, .int c_this_hasClimbed, .ref a_this_end, .ref a_this_point, .ref a_this_score, .ref a_this_by, .ref a_this_four, .ref a_this_isNear, .ref a_this_number, .ref a_this_numbers, .ref a_this_place, .ref a_this_was])), (a_this_frontPlan, .inl (cI, 2000, .inl c_this_frontPlan)), (a_this_planScore, .inl (cI, 8000, .inl c_this_planScore))] H locs → lv_has ls 6 [(0, .ref a_this), (1, .int x1), (2, .int x2), (4, .int v4_6), (5, .int v5_6)] → W p l e rm_X7_next s m args below meth c H locs 0 0 Q (F0 m 6 ls []) := fun v4_6 v5_6 H locs ls h => ih_6 v4_6 v5_6 H locs ls (hw_6 _ _ h)
      unfold b_X7_next_6 at hw
      refine lv_iload K.1 K.2.1 dX7_next_6 (lv_at hl 4 rfl) ?_
      refine lv_aload_n K.1 K.2.1 dX7_next_8 rfl (lv_at hl 0 rfl) ?_
      refine g_get (v := .int c_this_front) K hG hin_RX7 0 rfl rfl 14 (by decide) (K.2.2.2.2.1 (.fieldLink RX7 98 "AimFrontsModel" "front" "I") (by decide +kernel)) rfl rfl dX7_next_9 ?_
      refine lv_icmp_ge (tgt := 58) K.1 K.2.1 dX7_next_12 (by decide) (fun q_12 => ?_) (fun q_12 => ?_)
      · have hw := hw.1 q_12
        exact hX_6 v4_6 H locs ls hw hG (lv_sub hl [3] rfl)
      · have hw := hw.2 q_12
        refine lv_aload_n K.1 K.2.1 dX7_next_15 rfl (lv_at hl 0 rfl) ?_
        refine lv_iload K.1 K.2.1 dX7_next_16 (lv_at hl 4 rfl) ?_
        refine lv_iload_n K.1 K.2.1 dX7_next_18 rfl (lv_at hl 1 rfl) ?_
        refine g_ri K hG [0, 1, 2] rfl (g_runV (As := [.int v5_6, .int x1]) (rest := []) K hG hl [0, 1, 2] rfl rfl 0 rfl rfl (k_X7_at l dC dI cI cJ cZ cG H.size a_this a_this_lows a_this_highs a_this_rights a_this_terms a_this_costs a_this_froms a_this_tos a_this_planPoint a_this_planScore a_this_frontPlan a_this_frontTies a_this_pick a_this_end a_this_point a_this_score a_this_by a_this_four a_this_isNear a_this_number a_this_numbers a_this_place a_this_was c_this_aims c_this_columns c_this_front c_this_frontPlan c_this_gone c_this_hasClimbed c_this_picks c_this_planScore c_this_plans c_this_rows v5_6 x1 _ hw) (cwV 2 K.2.2.2.2.1 gX7_next_X7_at rfl rfl rfl (by decide +kernel) ⟨by decide, by decide⟩) rfl rfl (Nat.le_of_ble_eq_true rfl) ⟨Nat.zero_le _, Nat.zero_le _⟩ dX7_next_19) (fun r_19 H locs hw hG => ?_)
        refine lv_iload_n K.1 K.2.1 dX7_next_22 rfl (lv_at hl 2 rfl) ?_
        refine lv_icmp_le (tgt := 48) K.1 K.2.1 dX7_next_23 (by decide) (fun q_23 => ?_) (fun q_23 => ?_)
        · have hw := hw.1 q_23
          refine lv_iload K.1 K.2.1 dX7_next_48 (lv_at hl 3 rfl) ?_
          refine lv_istore (lv' := [(4, .int v4_6), (0, .ref a_this), (1, .int x1), (2, .int x2), (5, .int v5_6)]) K.1 K.2.1 dX7_next_50 hl (by decide) rfl (fun ls hl => ?_)
          refine lv_iinc (v := (v5_6 + (1 : Int32))) (lv' := [(5, .int (v5_6 + (1 : Int32))), (4, .int v4_6), (0, .ref a_this), (1, .int x1), (2, .int x2)]) K.1 K.2.1 dX7_next_52 hl (k := 4) rfl rfl (by decide) rfl (fun ls hl => ?_)
          refine lv_goto (tgt := 6) K.1 K.2.1 dX7_next_55 (by decide) ?_
          exact ih_6 v4_6 (v5_6 + (1 : Int32)) H locs ls hw hG (lv_sub hl [2, 3, 4, 1, 0] rfl)
        · have hw := hw.2 q_23
          refine lv_aload_n K.1 K.2.1 dX7_next_26 rfl (lv_at hl 0 rfl) ?_
          refine lv_iload K.1 K.2.1 dX7_next_27 (lv_at hl 4 rfl) ?_
          refine lv_iload_n K.1 K.2.1 dX7_next_29 rfl (lv_at hl 1 rfl) ?_
          refine g_ri K hG [0, 1, 2] rfl (g_runV (As := [.int v5_6, .int x1]) (rest := []) K hG hl [0, 1, 2] rfl rfl 0 rfl rfl (k_X7_at l dC dI cI cJ cZ cG H.size a_this a_this_lows a_this_highs a_this_rights a_this_terms a_this_costs a_this_froms a_this_tos a_this_planPoint a_this_planScore a_this_frontPlan a_this_frontTies a_this_pick a_this_end a_this_point a_this_score a_this_by a_this_four a_this_isNear a_this_number a_this_numbers a_this_place a_this_was c_this_aims c_this_columns c_this_front c_this_frontPlan c_this_gone c_this_hasClimbed c_this_picks c_this_planScore c_this_plans c_this_rows v5_6 x1 _ hw) (cwV 2 K.2.2.2.2.1 gX7_next_X7_at rfl rfl rfl (by decide +kernel) ⟨by decide, by decide⟩) rfl rfl (Nat.le_of_ble_eq_true rfl) ⟨Nat.zero_le _, Nat.zero_le _⟩ dX7_next_30) (fun r_30 H locs hw hG => ?_)
          refine lv_iload K.1 K.2.1 dX7_next_33 (lv_at hl 3 rfl) ?_
          refine lv_icmp_ge (tgt := 48) K.1 K.2.1 dX7_next_35 (by decide) (fun q_35 => ?_) (fun q_35 => ?_)
          · have hw := hw.1 q_35
            refine lv_iload K.1 K.2.1 dX7_next_48 (lv_at hl 3 rfl) ?_
            refine lv_istore (lv' := [(4, .int v4_6), (0, .ref a_this), (1, .int x1), (2, .int x2), (5, .int v5_6)]) K.1 K.2.1 dX7_next_50 hl (by decide) rfl (fun ls hl => ?_)
            refine lv_iinc (v := (v5_6 + (1 : Int32))) (lv' := [(5, .int (v5_6 + (1 : Int32))), (4, .int v4_6), (0, .ref a_this), (1, .int x1), (2, .int x2)]) K.1 K.2.1 dX7_next_52 hl (k := 4) rfl rfl (by decide) rfl (fun ls hl => ?_)
            refine lv_goto (tgt := 6) K.1 K.2.1 dX7_next_55 (by decide) ?_
            exact ih_6 v4_6 (v5_6 + (1 : Int32)) H locs ls hw hG (lv_sub hl [2, 3, 4, 1, 0] rfl)
          · have hw := hw.2 q_35
            refine lv_aload_n K.1 K.2.1 dX7_next_38 rfl (lv_at hl 0 rfl) ?_
            refine lv_iload K.1 K.2.1 dX7_next_39 (lv_at hl 4 rfl) ?_
            refine lv_iload_n K.1 K.2.1 dX7_next_41 rfl (lv_at hl 1 rfl) ?_
            refine g_ri K hG [0, 1, 2] rfl (g_runV (As := [.int v5_6, .int x1]) (rest := []) K hG hl [0, 1, 2] rfl rfl 0 rfl rfl (k_X7_at l dC dI cI cJ cZ cG H.size a_this a_this_lows a_this_highs a_this_rights a_this_terms a_this_costs a_this_froms a_this_tos a_this_planPoint a_this_planScore a_this_frontPlan a_this_frontTies a_this_pick a_this_end a_this_point a_this_score a_this_by a_this_four a_this_isNear a_this_number a_this_numbers a_this_place a_this_was c_this_aims c_this_columns c_this_front c_this_frontPlan c_this_gone c_this_hasClimbed c_this_picks c_this_planScore c_this_plans c_this_rows v5_6 x1 _ hw) (cwV 2 K.2.2.2.2.1 gX7_next_X7_at rfl rfl rfl (by decide +kernel) ⟨by decide, by decide⟩) rfl rfl (Nat.le_of_ble_eq_true rfl) ⟨Nat.zero_le _, Nat.zero_le _⟩ dX7_next_42) (fun r_42 H locs hw hG => ?_)
            refine lv_goto (tgt := 50) K.1 K.2.1 dX7_next_45 (by decide) ?_
            refine lv_istore (lv' := [(4, .int r_42), (0, .ref a_this), (1, .int x1), (2, .int x2), (5, .int v5_6)]) K.1 K.2.1 dX7_next_50 hl (by decide) rfl (fun ls hl => ?_)
            refine lv_iinc (v := (v5_6 + (1 : Int32))) (lv' := [(5, .int (v5_6 + (1 : Int32))), (4, .int r_42), (0, .ref a_this), (1, .int x1), (2, .int x2)]) K.1 K.2.1 dX7_next_52 hl (k := 4) rfl rfl (by decide) rfl (fun ls hl => ?_)
            refine lv_goto (tgt := 6) K.1 K.2.1 dX7_next_55 (by decide) ?_
            exact ih_6 r_42 (v5_6 + (1 : Int32)) H locs ls hw hG (lv_sub hl [2, 3, 4, 1, 0] rfl)
  exact hL_6 n_6 x3 (0 : Int32) H locs ls hw hG (lv_sub hl [2, 3, 4, 1, 0] rfl)
abbrev rm_X7_findNumbers : Room := { frames := 3, cells := 0, slots := 0, locals := 69 }
set_option maxHeartbeats 4000000 in
set_option maxRecDepth 100000 in
theorem k_X7_findNumbers (l : Launch) (dC : Nat → ClassId) (dI : Nat → Nat → Nat) (cI cJ cZ cG : ClassId) (sz : Nat) (a_this a_this_lows a_this_highs a_this_rights a_this_terms a_this_costs a_this_froms a_this_tos a_this_planPoint a_this_planScore a_this_frontPlan a_this_frontTies a_this_pick a_this_end a_this_point a_this_score a_this_by a_this_four a_this_isNear a_this_number a_this_numbers a_this_place a_this_was : Nat) (c_this_aims : Int32) (c_this_columns : Int32) (c_this_front : Int32) (c_this_frontPlan : Nat → Int32) (c_this_gone : Int32) (c_this_hasClimbed : Int32) (c_this_number : Nat → Int32) (c_this_numbers : Nat → Int32) (c_this_picks : Int32) (c_this_planScore : Nat → Int32) (c_this_plans : Int32) (c_this_rows : Int32) (post : (Nat → Int32) → (Nat → Int32) → Prop) (hw : wp_X7_findNumbers c_this_aims c_this_front c_this_frontPlan c_this_number c_this_numbers c_this_planScore post) : MetV l yX7_findNumbers wsX7_findNumbers rm_X7_findNumbers (dC, dI) cI cJ cZ cG [.ref a_this] sz [(a_this, .inr (6, [.int c_this_columns, .int c_this_rows, .int c_this_aims, .ref a_this_lows, .ref a_this_highs, .ref a_this_rights, .ref a_this_terms, .ref a_this_costs, .ref a_this_froms, .ref a_this_tos, .int c_this_gone, .int c_this_plans, .ref a_this_planPoint, .ref a_this_planScore, .int c_this_front, .ref a_this_frontPlan, .ref a_this_frontTies, .int c_this_picks, .ref a_this_pick, .int c_this_hasClimbed, .ref a_this_end, .ref a_this_point, .ref a_this_score, .ref a_this_by, .ref a_this_four, .ref a_this_isNear, .ref a_this_number, .ref a_this_numbers, .ref a_this_place, .ref a_this_was])), (a_this_frontPlan, .inl (cI, 2000, .inl c_this_frontPlan)), (a_this_number, .inl (cI, 52, .inl c_this_number)), (a_this_numbers, .inl (cI, 4, .inl c_this_numbers)), (a_this_planScore, .inl (cI, 8000, .inl c_this_planScore))] (fun (u : (Nat → Int32) × (Nat → Int32)) => post (u.1) (u.2)) (fun u => [(a_this, .inr (6, [.int c_this_columns, .int c_this_rows, .int c_this_aims, .ref a_this_lows, .ref a_this_highs, .ref a_this_rights, .ref a_this_terms, .ref a_this_costs, .ref a_this_froms, .ref a_this_tos, .int c_this_gone, .int c_this_plans, .ref a_this_planPoint, .ref a_this_planScore, .int c_this_front, .ref a_this_frontPlan, .ref a_this_frontTies, .int c_this_picks, .ref a_this_pick, .int c_this_hasClimbed, .ref a_this_end, .ref a_this_point, .ref a_this_score, .ref a_this_by, .ref a_this_four, .ref a_this_isNear, .ref a_this_number, .ref a_this_numbers, .ref a_this_place, .ref a_this_was])), (a_this_frontPlan, .inl (cI, 2000, .inl c_this_frontPlan)), (a_this_number, .inl (cI, 52, .inl (u.1))), (a_this_numbers, .inl (cI, 4, .inl (u.2))), (a_this_planScore, .inl (cI, 8000, .inl c_this_planScore))]) := by
  refine met_v (cc := cX7_findNumbers) (maxL := 4) (by decide) rfl (Nat.le_of_ble_eq_true rfl) ?_
  intro p e s m args below meth c A Q H locs ls K hG hl hret
  have hl : lv_has ls 4 [(0, .ref a_this)] := hl
  have hin_RX7 : ∀ w ∈ u_ws RX7 TX7 30, w ∈ wsX7_findNumbers := by decide +kernel
  unfold wp_X7_findNumbers at hw
  refine lv_iconst (v := 0) K.1 K.2.1 dX7_findNumbers_0 (by decide) ?_
  refine lv_istore_n (lv' := [(1, .int (0 : Int32)), (0, .ref a_this)]) K.1 K.2.1 dX7_findNumbers_1 rfl hl (by decide) rfl (fun ls hl => ?_)
  obtain ⟨kx_2, hkx_2, n_2, hw⟩ := Lx1_2_abs hw
  have hX_2 : ∀ (c_this_numbers_2e : Nat → Int32) (H : Heap) (locs : List Loc) (ls : Array Slot), kx_2 c_this_numbers_2e → HW (dC, dI) A s.heap [(a_this, .inr (6, [.int c_this_columns, .int c_this_rows, .int c_this_aims, .ref a_this_lows, .ref a_this_highs, .ref a_this_rights, .ref a_this_terms, .ref a_this_costs, .ref a_this_froms, .ref a_this_tos, .int c_this_gone, .int c_this_plans, .ref a_this_planPoint, .ref a_this_planScore, .int c_this_front, .ref a_this_frontPlan, .ref a_this_frontTies, .int c_this_picks, .ref a_this_pick, .int c_this_hasClimbed, .ref a_this_end, .ref a_this_point, .ref a_this_score, .ref a_this_by, .ref a_this_four, .ref a_this_isNear, .ref a_this_number, .ref a_this_numbers, .ref a_this_place, .ref a_this_was])), (a_this_frontPlan, .inl (cI, 2000, .inl c_this_frontPlan)), (a_this_number, .inl (cI, 52, .inl c_this_number)), (a_this_numbers, .inl (cI, 4, .inl c_this_numbers_2e)), (a_this_planScore, .inl (cI, 8000, .inl c_this_planScore))] H locs → lv_has ls 4 [(0, .ref a_this)] → W p l e rm_X7_findNumbers s m args below meth c H locs 0 0 Q (F0 m 20 ls []) := by
    intro c_this_numbers_2e H locs ls hw hG hl
    have hw := hkx_2 _ hw
    refine lv_iconst (v := 0) K.1 K.2.1 dX7_findNumbers_20 (by decide) ?_
    refine lv_istore_n (lv' := [(1, .int (0 : Int32)), (0, .ref a_this)]) K.1 K.2.1 dX7_findNumbers_21 rfl hl (by decide) rfl (fun ls hl => ?_)
    obtain ⟨kx_22, hkx_22, n_22, hw⟩ := Lx2_3_abs hw
    have hX_22 : ∀ (c_this_number_22e : Nat → Int32) (c_this_numbers_22e : Nat → Int32) (H : Heap) (locs : List Loc) (ls : Array Slot), kx_22 c_this_number_22e c_this_numbers_22e → HW (dC, dI) A s.heap [(a_this, .inr (6, [.int c_this_columns, .int c_this_rows, .int c_this_aims, .ref a_this_lows, .ref a_this_highs, .ref a_this_rights, .ref a_this_terms, .ref a_this_costs, .ref a_this_froms, .ref a_this_tos, .int c_this_gone, .int c_this_plans, .ref a_this_planPoint, .ref a_this_planScore, .int c_this_front, .ref a_this_frontPlan, .ref a_this_frontTies, .int c_this_picks, .ref a_this_pick, .int c_this_hasClimbed, .ref a_this_end, .ref a_this_point, .ref a_this_score, .ref a_this_by, .ref a_this_four, .ref a_this_isNear, .ref a_this_number, .ref a_this_numbers, .ref a_this_place, .ref a_this_was])), (a_this_frontPlan, .inl (cI, 2000, .inl c_this_frontPlan)), (a_this_number, .inl (cI, 52, .inl c_this_number_22e)), (a_this_numbers, .inl (cI, 4, .inl c_this_numbers_22e)), (a_this_planScore, .inl (cI, 8000, .inl c_this_planScore))] H locs → lv_has ls 4 [] → W p l e rm_X7_findNumbers s m args below meth c H locs 0 0 Q (F0 m 120 ls []) := by
      intro c_this_number_22e c_this_numbers_22e H locs ls hw hG hl
      have hw := hkx_22 _ _ hw
      exact hret (c_this_number_22e, c_this_numbers_22e) H locs _ ls dX7_findNumbers_120 hw hG
    have hL_22 : ∀ (n : Nat), ∀ (v1_22 : Int32) (c_this_number_22 : Nat → Int32) (c_this_numbers_22 : Nat → Int32) (H : Heap) (locs : List Loc) (ls : Array Slot), Lp3 (b_X7_findNumbers_22 c_this_aims c_this_front c_this_frontPlan c_this_planScore kx_22) n v1_22 c_this_number_22 c_this_numbers_22 → HW (dC, dI) A s.heap [(a_this, .inr (6, [.int c_this_columns, .int c_this_rows, .int c_this_aims, .ref a_this_lows, .ref a_this_highs, .ref a_this_rights, .ref a_this_terms, .ref a_this_costs, .ref a_this_froms, .ref a_this_tos, .int c_this_gone, .int c_this_plans, .ref a_this_planPoint, .ref a_this_planScore, .int c_this_front, .ref a_this_frontPlan, .ref a_this_frontTies, .int c_this_picks, .ref a_this_pick, .int c_this_hasClimbed, .ref a_this_end, .ref a_this_point, .ref a_this_score, .ref a_this_by, .ref a_this_four, .ref a_this_isNear, .ref a_this_number, .ref a_this_numbers, .ref a_this_place, .ref a_this_was])), (a_this_frontPlan, .inl (cI, 2000, .inl c_this_frontPlan)), (a_this_number, .inl (cI, 52, .inl c_this_number_22)), (a_this_numbers, .inl (cI, 4, .inl c_this_numbers_22)), (a_this_planScore, .inl (cI, 8000, .inl c_this_planScore))] H locs → lv_has ls 4 [(0, .ref a_this), (1, .int v1_22)] → W p l e rm_X7_findNumbers s m args below meth c H locs 0 0 Q (F0 m 22 ls []) := by
      intro n
      induction n with
      | zero => intro v1_22 c_this_number_22 c_this_numbers_22 H locs ls hw; exact False.elim hw
      | succ n ih_22 =>
        intro v1_22 c_this_number_22 c_this_numbers_22 H locs ls hw hG hl
        obtain ⟨w_22, hw_22, hw⟩ : ∃ w' : Int32 → (Nat → Int32) → (Nat → Int32) → Prop, (∀ v1_22 c_this_number_22 c_this_numbers_22, w' v1_22 c_this_number_22 c_this_numbers_22 → Lp3 (b_X7_findNumbers_22 c_this_aims c_this_front c_this_frontPlan c_this_planScore kx_22) n v1_22 c_this_number_22 c_this_numbers_22) ∧ b_X7_findNumbers_22 c_this_aims c_this_front c_this_frontPlan c_this_planScore kx_22 w' v1_22 c_this_number_22 c_this_numbers_22 := ⟨_, fun _ _ _ h => h, hw⟩
        replace ih_22 : ∀ (v1_22 : Int32) (c_this_number_22 : Nat → Int32) (c_this_numbers_22 : Nat → Int32) (H : Heap) (locs : List Loc) (ls : Array Slot), w_22 v1_22 c_this_number_22 c_this_numbers_22 → HW (dC, dI) A s.heap [(a_this, .inr (6, [.int c_this_columns, .int c_this_rows, .int c_this_aims, .ref a_this_lows, .ref a_this_highs, .ref a_this_rights, .ref a_this_terms, .ref a_this_costs, .ref a_this_froms, .ref a_this_tos, .int c_this_gone, .int c_this_plans, .ref a_this_planPoint, .ref a_this_planScore, .int c_this_front, .ref a_this_frontPlan, .ref a_this_frontTies, .int c_this_picks, .ref a_this_pick, .int c_this_hasClimbed, .ref a_this_end, .ref a_this_point, .ref a_this_score, .ref a_this_by, .ref a_this_four, .ref a_this_isNear, .ref a_this_number, .ref a_this_numbers, .ref a_this_place, .ref a_this_was])), (a_this_frontPlan, .inl (cI, 2000, .inl c_this_frontPlan)), (a_this_number, .inl (cI, 52, .inl c_this_number_22)), (a_this_numbers, .inl (cI, 4, .inl c_this_numbers_22)), (a_this_planScore, .inl (cI, 8000, .inl c_this_planScore))] H locs → lv_has ls 4 [(0, .ref a_this), (1, .int v1_22)] → W p l e rm_X7_findNumbers s m args below meth c H locs 0 0 Q (F0 m 22 ls []) := fun v1_22 c_this_number_22 c_this_numbers_22 H locs ls h => ih_22 v1_22 c_this_number_22 c_this_numbers_22 H locs ls (hw_22 _ _ _ h)
        unfold b_X7_findNumbers_22 at hw
        refine lv_iload_n K.1 K.2.1 dX7_findNumbers_22 rfl (lv_at hl 1 rfl) ?_
        refine lv_aload_n K.1 K.2.1 dX7_findNumbers_23 rfl (lv_at hl 0 rfl) ?_
        refine g_get (v := .int c_this_aims) K hG hin_RX7 0 rfl rfl 2 (by decide) (K.2.2.2.2.1 (.fieldLink RX7 89 "AimFrontsModel" "aims" "I") (by decide +kernel)) rfl rfl dX7_findNumbers_24 ?_
        refine lv_icmp_ge (tgt := 120) K.1 K.2.1 dX7_findNumbers_27 (by decide) (fun q_27 => ?_) (fun q_27 => ?_)
        · have hw := hw.1 q_27
          exact hX_22 c_this_number_22 c_this_numbers_22 H locs ls hw hG (lv_sub hl [] rfl)
        · have hw := hw.2 q_27
          refine lv_aload_n K.1 K.2.1 dX7_findNumbers_30 rfl (lv_at hl 0 rfl) ?_
          refine lv_iload_n K.1 K.2.1 dX7_findNumbers_31 rfl (lv_at hl 1 rfl) ?_
          refine g_ri K hG [0, 1, 4] rfl (g_runV (As := [.int v1_22]) (rest := []) K hG hl [0, 1, 4] rfl rfl 0 rfl rfl (k_X7_least l dC dI cI cJ cZ cG H.size a_this a_this_lows a_this_highs a_this_rights a_this_terms a_this_costs a_this_froms a_this_tos a_this_planPoint a_this_planScore a_this_frontPlan a_this_frontTies a_this_pick a_this_end a_this_point a_this_score a_this_by a_this_four a_this_isNear a_this_number a_this_numbers a_this_place a_this_was c_this_aims c_this_columns c_this_front c_this_frontPlan c_this_gone c_this_hasClimbed c_this_picks c_this_planScore c_this_plans c_this_rows v1_22 _ hw) (cwV 1 K.2.2.2.2.1 gX7_findNumbers_X7_least rfl rfl rfl (by decide +kernel) ⟨by decide, by decide⟩) rfl rfl (Nat.le_of_ble_eq_true rfl) ⟨Nat.zero_le _, Nat.zero_le _⟩ dX7_findNumbers_32) (fun r_32 H locs hw hG => ?_)
          refine lv_istore_n (lv' := [(2, .int r_32), (0, .ref a_this), (1, .int v1_22)]) K.1 K.2.1 dX7_findNumbers_35 rfl hl (by decide) rfl (fun ls hl => ?_)
          refine lv_aload_n K.1 K.2.1 dX7_findNumbers_36 rfl (lv_at hl 1 rfl) ?_
          refine lv_iload_n K.1 K.2.1 dX7_findNumbers_37 rfl (lv_at hl 2 rfl) ?_
          refine g_ri K hG [0, 1, 4] rfl (g_runV (As := [.int v1_22]) (rest := []) K hG hl [0, 1, 4] rfl rfl 0 rfl rfl (k_X7_greatest l dC dI cI cJ cZ cG H.size a_this a_this_lows a_this_highs a_this_rights a_this_terms a_this_costs a_this_froms a_this_tos a_this_planPoint a_this_planScore a_this_frontPlan a_this_frontTies a_this_pick a_this_end a_this_point a_this_score a_this_by a_this_four a_this_isNear a_this_number a_this_numbers a_this_place a_this_was c_this_aims c_this_columns c_this_front c_this_frontPlan c_this_gone c_this_hasClimbed c_this_picks c_this_planScore c_this_plans c_this_rows v1_22 _ hw) (cwV 1 K.2.2.2.2.1 gX7_findNumbers_X7_greatest rfl rfl rfl (by decide +kernel) ⟨by decide, by decide⟩) rfl rfl (Nat.le_of_ble_eq_true rfl) ⟨Nat.zero_le _, Nat.zero_le _⟩ dX7_findNumbers_38) (fun r_38 H locs hw hG => ?_)
          refine lv_iconst (v := 1) K.1 K.2.1 dX7_findNumbers_41 (by decide) ?_
          refine lv_iadd K.1 K.2.1 dX7_findNumbers_42 ?_
          refine lv_istore_n (lv' := [(3, .int (r_38 + (1 : Int32))), (2, .int r_32), (0, .ref a_this), (1, .int v1_22)]) K.1 K.2.1 dX7_findNumbers_43 rfl hl (by decide) rfl (fun ls hl => ?_)
          obtain ⟨kx_44, hkx_44, n_44, hw⟩ := Lx2_3_abs hw
          have hX_44 : ∀ (c_this_number_44e : Nat → Int32) (c_this_numbers_44e : Nat → Int32) (H : Heap) (locs : List Loc) (ls : Array Slot), kx_44 c_this_number_44e c_this_numbers_44e → HW (dC, dI) A s.heap [(a_this, .inr (6, [.int c_this_columns, .int c_this_rows, .int c_this_aims, .ref a_this_lows, .ref a_this_highs, .ref a_this_rights, .ref a_this_terms, .ref a_this_costs, .ref a_this_froms, .ref a_this_tos, .int c_this_gone, .int c_this_plans, .ref a_this_planPoint, .ref a_this_planScore, .int c_this_front, .ref a_this_frontPlan, .ref a_this_frontTies, .int c_this_picks, .ref a_this_pick, .int c_this_hasClimbed, .ref a_this_end, .ref a_this_point, .ref a_this_score, .ref a_this_by, .ref a_this_four, .ref a_this_isNear, .ref a_this_number, .ref a_this_numbers, .ref a_this_place, .ref a_this_was])), (a_this_frontPlan, .inl (cI, 2000, .inl c_this_frontPlan)), (a_this_number, .inl (cI, 52, .inl c_this_number_44e)), (a_this_numbers, .inl (cI, 4, .inl c_this_numbers_44e)), (a_this_planScore, .inl (cI, 8000, .inl c_this_planScore))] H locs → lv_has ls 4 [(0, .ref a_this), (1, .int v1_22), (3, .int (r_38 + (1 : Int32)))] → W p l e rm_X7_findNumbers s m args below meth c H locs 0 0 Q (F0 m 87 ls []) := by
            intro c_this_number_44e c_this_numbers_44e H locs ls hw hG hl
            have hw := hkx_44 _ _ hw
            refine lv_aload_n K.1 K.2.1 dX7_findNumbers_87 rfl (lv_at hl 0 rfl) ?_
            refine g_get (v := .ref a_this_number) K hG hin_RX7 0 rfl rfl 26 (by decide) (K.2.2.2.2.1 (.fieldLink RX7 66 "AimFrontsModel" "number" "[I") (by decide +kernel)) rfl rfl dX7_findNumbers_88 ?_
            refine lv_bipush (v := 13) K.1 K.2.1 dX7_findNumbers_91 (by decide) ?_
            refine lv_iload_n K.1 K.2.1 dX7_findNumbers_93 rfl (lv_at hl 1 rfl) ?_
            refine lv_imul K.1 K.2.1 dX7_findNumbers_94 ?_
            refine lv_aload_n K.1 K.2.1 dX7_findNumbers_95 rfl (lv_at hl 0 rfl) ?_
            refine g_get (v := .ref a_this_numbers) K hG hin_RX7 0 rfl rfl 27 (by decide) (K.2.2.2.2.1 (.fieldLink RX7 69 "AimFrontsModel" "numbers" "[I") (by decide +kernel)) rfl rfl dX7_findNumbers_96 ?_
            refine lv_iload_n K.1 K.2.1 dX7_findNumbers_99 rfl (lv_at hl 1 rfl) ?_
            obtain ⟨h_100, hw⟩ := hw
            refine g_iald K hG 3 rfl h_100 dX7_findNumbers_100 ?_
            refine lv_iadd K.1 K.2.1 dX7_findNumbers_101 ?_
            refine lv_iload_n K.1 K.2.1 dX7_findNumbers_102 rfl (lv_at hl 2 rfl) ?_
            obtain ⟨h_103, hw⟩ := hw
            refine g_iast (ws' := [(a_this, .inr (6, [.int c_this_columns, .int c_this_rows, .int c_this_aims, .ref a_this_lows, .ref a_this_highs, .ref a_this_rights, .ref a_this_terms, .ref a_this_costs, .ref a_this_froms, .ref a_this_tos, .int c_this_gone, .int c_this_plans, .ref a_this_planPoint, .ref a_this_planScore, .int c_this_front, .ref a_this_frontPlan, .ref a_this_frontTies, .int c_this_picks, .ref a_this_pick, .int c_this_hasClimbed, .ref a_this_end, .ref a_this_point, .ref a_this_score, .ref a_this_by, .ref a_this_four, .ref a_this_isNear, .ref a_this_number, .ref a_this_numbers, .ref a_this_place, .ref a_this_was])), (a_this_frontPlan, .inl (cI, 2000, .inl c_this_frontPlan)), (a_this_number, .inl (cI, 52, .inl (upd c_this_number_44e ((((13 : Int32) * v1_22) + (c_this_numbers_44e (v1_22).toNatClampNeg))).toNatClampNeg (r_38 + (1 : Int32))))), (a_this_numbers, .inl (cI, 4, .inl c_this_numbers_44e)), (a_this_planScore, .inl (cI, 8000, .inl c_this_planScore))]) K hG 2 rfl h_103 rfl dX7_findNumbers_103 (fun H locs hG => ?_)
            refine lv_aload_n K.1 K.2.1 dX7_findNumbers_104 rfl (lv_at hl 0 rfl) ?_
            refine g_get (v := .ref a_this_numbers) K hG hin_RX7 0 rfl rfl 27 (by decide) (K.2.2.2.2.1 (.fieldLink RX7 69 "AimFrontsModel" "numbers" "[I") (by decide +kernel)) rfl rfl dX7_findNumbers_105 ?_
            refine lv_iload_n K.1 K.2.1 dX7_findNumbers_108 rfl (lv_at hl 1 rfl) ?_
            refine lv_dup2_11 K.1 K.2.1 dX7_findNumbers_109 rfl rfl ?_
            obtain ⟨h_110, hw⟩ := hw
            refine g_iald K hG 3 rfl h_110 dX7_findNumbers_110 ?_
            refine lv_iconst (v := 1) K.1 K.2.1 dX7_findNumbers_111 (by decide) ?_
            refine lv_iadd K.1 K.2.1 dX7_findNumbers_112 ?_
            obtain ⟨h_113, hw⟩ := hw
            refine g_iast (ws' := [(a_this, .inr (6, [.int c_this_columns, .int c_this_rows, .int c_this_aims, .ref a_this_lows, .ref a_this_highs, .ref a_this_rights, .ref a_this_terms, .ref a_this_costs, .ref a_this_froms, .ref a_this_tos, .int c_this_gone, .int c_this_plans, .ref a_this_planPoint, .ref a_this_planScore, .int c_this_front, .ref a_this_frontPlan, .ref a_this_frontTies, .int c_this_picks, .ref a_this_pick, .int c_this_hasClimbed, .ref a_this_end, .ref a_this_point, .ref a_this_score, .ref a_this_by, .ref a_this_four, .ref a_this_isNear, .ref a_this_number, .ref a_this_numbers, .ref a_this_place, .ref a_this_was])), (a_this_frontPlan, .inl (cI, 2000, .inl c_this_frontPlan)), (a_this_number, .inl (cI, 52, .inl (upd c_this_number_44e ((((13 : Int32) * v1_22) + (c_this_numbers_44e (v1_22).toNatClampNeg))).toNatClampNeg (r_38 + (1 : Int32))))), (a_this_numbers, .inl (cI, 4, .inl (upd c_this_numbers_44e (v1_22).toNatClampNeg ((c_this_numbers_44e (v1_22).toNatClampNeg) + (1 : Int32))))), (a_this_planScore, .inl (cI, 8000, .inl c_this_planScore))]) K hG 3 rfl h_113 rfl dX7_findNumbers_113 (fun H locs hG => ?_)
            refine lv_iinc (v := (v1_22 + (1 : Int32))) (lv' := [(1, .int (v1_22 + (1 : Int32))), (0, .ref a_this), (3, .int (r_38 + (1 : Int32)))]) K.1 K.2.1 dX7_findNumbers_114 hl (k := 1) rfl rfl (by decide) rfl (fun ls hl => ?_)
            refine lv_goto (tgt := 22) K.1 K.2.1 dX7_findNumbers_117 (by decide) ?_
            exact ih_22 (v1_22 + (1 : Int32)) (upd c_this_number_44e ((((13 : Int32) * v1_22) + (c_this_numbers_44e (v1_22).toNatClampNeg))).toNatClampNeg (r_38 + (1 : Int32))) (upd c_this_numbers_44e (v1_22).toNatClampNeg ((c_this_numbers_44e (v1_22).toNatClampNeg) + (1 : Int32))) H locs ls hw hG (lv_sub hl [1, 0] rfl)
          have hL_44 : ∀ (n : Nat), ∀ (v2_44 : Int32) (c_this_number_44 : Nat → Int32) (c_this_numbers_44 : Nat → Int32) (H : Heap) (locs : List Loc) (ls : Array Slot), Lp3 (b_X7_findNumbers_44 c_this_front c_this_frontPlan c_this_planScore v1_22 r_38 kx_44) n v2_44 c_this_number_44 c_this_numbers_44 → HW (dC, dI) A s.heap [(a_this, .inr (6, [.int c_this_columns, .int c_this_rows, .int c_this_aims, .ref a_this_lows, .ref a_this_highs, .ref a_this_rights, .ref a_this_terms, .ref a_this_costs, .ref a_this_froms, .ref a_this_tos, .int c_this_gone, .int c_this_plans, .ref a_this_planPoint, .ref a_this_planScore, .int c_this_front, .ref a_this_frontPlan, .ref a_this_frontTies, .int c_this_picks, .ref a_this_pick, .int c_this_hasClimbed, .ref a_this_end, .ref a_this_point, .ref a_this_score, .ref a_this_by, .ref a_this_four, .ref a_this_isNear, .ref a_this_number, .ref a_this_numbers, .ref a_this_place, .ref a_this_was])), (a_this_frontPlan, .inl (cI, 2000, .inl c_this_frontPlan)), (a_this_number, .inl (cI, 52, .inl c_this_number_44)), (a_this_numbers, .inl (cI, 4, .inl c_this_numbers_44)), (a_this_planScore, .inl (cI, 8000, .inl c_this_planScore))] H locs → lv_has ls 4 [(0, .ref a_this), (1, .int v1_22), (2, .int v2_44), (3, .int (r_38 + (1 : Int32)))] → W p l e rm_X7_findNumbers s m args below meth c H locs 0 0 Q (F0 m 44 ls []) := by
            intro n
            induction n with
            | zero => intro v2_44 c_this_number_44 c_this_numbers_44 H locs ls hw; exact False.elim hw
            | succ n ih_44 =>
              intro v2_44 c_this_number_44 c_this_numbers_44 H locs ls hw hG hl
              obtain ⟨w_44, hw_44, hw⟩ : ∃ w' : Int32 → (Nat → Int32) → (Nat → Int32) → Prop, (∀ v2_44 c_this_number_44 c_this_numbers_44, w' v2_44 c_this_number_44 c_this_numbers_44 → Lp3 (b_X7_findNumbers_44 c_this_front c_this_frontPlan c_this_planScore v1_22 r_38 kx_44) n v2_44 c_this_number_44 c_this_numbers_44) ∧ b_X7_findNumbers_44 c_this_front c_this_frontPlan c_this_planScore v1_22 r_38 kx_44 w' v2_44 c_this_number_44 c_this_numbers_44 := ⟨_, fun _ _ _ h => h, hw⟩
              replace ih_44 : ∀ (v2_44 : Int32) (c_this_number_44 : Nat → Int32) (c_this_numbers_44 : Nat → Int32) (H : Heap) (locs : List Loc) (ls : Array Slot), w_44 v2_44 c_this_number_44 c_this_numbers_44 → HW (dC, dI) A s.heap [(a_this, .inr (6, [.int c_this_columns, .int c_this_rows, .int c_this_aims, .ref a_this_lows, .ref a_this_highs, .ref a_this_rights, .ref a_this_terms, .ref a_this_costs, .ref a_this_froms, .ref a_this_tos, .int c_this_gone, .int c_this_plans, .ref a_this_planPoint, .ref a_this_planScore, .int c_this_front, .ref a_this_frontPlan, .ref a_this_frontTies, .int c_this_picks, .ref a_this_pick, .int c_this_hasClimbed, .ref a_this_end, .ref a_this_point, .ref a_this_score, .ref a_this_by, .ref a_this_four, .ref a_this_isNear, .ref a_this_number, .ref a_this_numbers, .ref a_this_place, .ref a_this_was])), (a_this_frontPlan, .inl (cI, 2000, .inl c_this_frontPlan)), (a_this_number, .inl (cI, 52, .inl c_this_number_44)), (a_this_numbers, .inl (cI, 4, .inl c_this_numbers_44)), (a_this_planScore, .inl (cI, 8000, .inl c_this_planScore))] H locs → lv_has ls 4 [(0, .ref a_this), (1, .int v1_22), (2, .int v2_44), (3, .int (r_38 + (1 : Int32)))] → W p l e rm_X7_findNumbers s m args below meth c H locs 0 0 Q (F0 m 44 ls []) := fun v2_44 c_this_number_44 c_this_numbers_44 H locs ls h => ih_44 v2_44 c_this_number_44 c_this_numbers_44 H locs ls (hw_44 _ _ _ h)
              unfold b_X7_findNumbers_44 at hw
              refine lv_iload_n K.1 K.2.1 dX7_findNumbers_44 rfl (lv_at hl 2 rfl) ?_
              refine lv_iload_n K.1 K.2.1 dX7_findNumbers_45 rfl (lv_at hl 3 rfl) ?_
              refine lv_icmp_ge (tgt := 87) K.1 K.2.1 dX7_findNumbers_46 (by decide) (fun q_46 => ?_) (fun q_46 => ?_)
              · have hw := hw.1 q_46
                exact hX_44 c_this_number_44 c_this_numbers_44 H locs ls hw hG (lv_sub hl [0, 1, 3] rfl)
              · have hw := hw.2 q_46
                refine lv_aload_n K.1 K.2.1 dX7_findNumbers_49 rfl (lv_at hl 0 rfl) ?_
                refine g_get (v := .ref a_this_number) K hG hin_RX7 0 rfl rfl 26 (by decide) (K.2.2.2.2.1 (.fieldLink RX7 66 "AimFrontsModel" "number" "[I") (by decide +kernel)) rfl rfl dX7_findNumbers_50 ?_
                refine lv_bipush (v := 13) K.1 K.2.1 dX7_findNumbers_53 (by decide) ?_
                refine lv_iload_n K.1 K.2.1 dX7_findNumbers_55 rfl (lv_at hl 1 rfl) ?_
                refine lv_imul K.1 K.2.1 dX7_findNumbers_56 ?_
                refine lv_aload_n K.1 K.2.1 dX7_findNumbers_57 rfl (lv_at hl 0 rfl) ?_
                refine g_get (v := .ref a_this_numbers) K hG hin_RX7 0 rfl rfl 27 (by decide) (K.2.2.2.2.1 (.fieldLink RX7 69 "AimFrontsModel" "numbers" "[I") (by decide +kernel)) rfl rfl dX7_findNumbers_58 ?_
                refine lv_iload_n K.1 K.2.1 dX7_findNumbers_61 rfl (lv_at hl 1 rfl) ?_
                obtain ⟨h_62, hw⟩ := hw
                refine g_iald K hG 3 rfl h_62 dX7_findNumbers_62 ?_
                refine lv_iadd K.1 K.2.1 dX7_findNumbers_63 ?_
                refine lv_iload_n K.1 K.2.1 dX7_findNumbers_64 rfl (lv_at hl 2 rfl) ?_
                obtain ⟨h_65, hw⟩ := hw
                refine g_iast (ws' := [(a_this, .inr (6, [.int c_this_columns, .int c_this_rows, .int c_this_aims, .ref a_this_lows, .ref a_this_highs, .ref a_this_rights, .ref a_this_terms, .ref a_this_costs, .ref a_this_froms, .ref a_this_tos, .int c_this_gone, .int c_this_plans, .ref a_this_planPoint, .ref a_this_planScore, .int c_this_front, .ref a_this_frontPlan, .ref a_this_frontTies, .int c_this_picks, .ref a_this_pick, .int c_this_hasClimbed, .ref a_this_end, .ref a_this_point, .ref a_this_score, .ref a_this_by, .ref a_this_four, .ref a_this_isNear, .ref a_this_number, .ref a_this_numbers, .ref a_this_place, .ref a_this_was])), (a_this_frontPlan, .inl (cI, 2000, .inl c_this_frontPlan)), (a_this_number, .inl (cI, 52, .inl (upd c_this_number_44 ((((13 : Int32) * v1_22) + (c_this_numbers_44 (v1_22).toNatClampNeg))).toNatClampNeg v2_44))), (a_this_numbers, .inl (cI, 4, .inl c_this_numbers_44)), (a_this_planScore, .inl (cI, 8000, .inl c_this_planScore))]) K hG 2 rfl h_65 rfl dX7_findNumbers_65 (fun H locs hG => ?_)
                refine lv_aload_n K.1 K.2.1 dX7_findNumbers_66 rfl (lv_at hl 0 rfl) ?_
                refine g_get (v := .ref a_this_numbers) K hG hin_RX7 0 rfl rfl 27 (by decide) (K.2.2.2.2.1 (.fieldLink RX7 69 "AimFrontsModel" "numbers" "[I") (by decide +kernel)) rfl rfl dX7_findNumbers_67 ?_
                refine lv_iload_n K.1 K.2.1 dX7_findNumbers_70 rfl (lv_at hl 1 rfl) ?_
                refine lv_dup2_11 K.1 K.2.1 dX7_findNumbers_71 rfl rfl ?_
                obtain ⟨h_72, hw⟩ := hw
                refine g_iald K hG 3 rfl h_72 dX7_findNumbers_72 ?_
                refine lv_iconst (v := 1) K.1 K.2.1 dX7_findNumbers_73 (by decide) ?_
                refine lv_iadd K.1 K.2.1 dX7_findNumbers_74 ?_
                obtain ⟨h_75, hw⟩ := hw
                refine g_iast (ws' := [(a_this, .inr (6, [.int c_this_columns, .int c_this_rows, .int c_this_aims, .ref a_this_lows, .ref a_this_highs, .ref a_this_rights, .ref a_this_terms, .ref a_this_costs, .ref a_this_froms, .ref a_this_tos, .int c_this_gone, .int c_this_plans, .ref a_this_planPoint, .ref a_this_planScore, .int c_this_front, .ref a_this_frontPlan, .ref a_this_frontTies, .int c_this_picks, .ref a_this_pick, .int c_this_hasClimbed, .ref a_this_end, .ref a_this_point, .ref a_this_score, .ref a_this_by, .ref a_this_four, .ref a_this_isNear, .ref a_this_number, .ref a_this_numbers, .ref a_this_place, .ref a_this_was])), (a_this_frontPlan, .inl (cI, 2000, .inl c_this_frontPlan)), (a_this_number, .inl (cI, 52, .inl (upd c_this_number_44 ((((13 : Int32) * v1_22) + (c_this_numbers_44 (v1_22).toNatClampNeg))).toNatClampNeg v2_44))), (a_this_numbers, .inl (cI, 4, .inl (upd c_this_numbers_44 (v1_22).toNatClampNeg ((c_this_numbers_44 (v1_22).toNatClampNeg) + (1 : Int32))))), (a_this_planScore, .inl (cI, 8000, .inl c_this_planScore))]) K hG 3 rfl h_75 rfl dX7_findNumbers_75 (fun H locs hG => ?_)
                refine lv_aload_n K.1 K.2.1 dX7_findNumbers_76 rfl (lv_at hl 0 rfl) ?_
                refine lv_iload_n K.1 K.2.1 dX7_findNumbers_77 rfl (lv_at hl 1 rfl) ?_
                refine lv_iload_n K.1 K.2.1 dX7_findNumbers_78 rfl (lv_at hl 2 rfl) ?_
                refine lv_iload_n K.1 K.2.1 dX7_findNumbers_79 rfl (lv_at hl 3 rfl) ?_
                refine g_ri K hG [0, 1, 4] rfl (g_runV (As := [.int v1_22, .int v2_44, .int (r_38 + (1 : Int32))]) (rest := []) K hG hl [0, 1, 4] rfl rfl 0 rfl rfl (k_X7_next l dC dI cI cJ cZ cG H.size a_this a_this_lows a_this_highs a_this_rights a_this_terms a_this_costs a_this_froms a_this_tos a_this_planPoint a_this_planScore a_this_frontPlan a_this_frontTies a_this_pick a_this_end a_this_point a_this_score a_this_by a_this_four a_this_isNear a_this_number a_this_numbers a_this_place a_this_was c_this_aims c_this_columns c_this_front c_this_frontPlan c_this_gone c_this_hasClimbed c_this_picks c_this_planScore c_this_plans c_this_rows v1_22 v2_44 (r_38 + (1 : Int32)) _ hw) (cwV 3 K.2.2.2.2.1 gX7_findNumbers_X7_next rfl rfl rfl (by decide +kernel) ⟨by decide, by decide⟩) rfl rfl (Nat.le_of_ble_eq_true rfl) ⟨Nat.zero_le _, Nat.zero_le _⟩ dX7_findNumbers_80) (fun r_80 H locs hw hG => ?_)
                refine lv_istore_n (lv' := [(2, .int r_80), (0, .ref a_this), (1, .int v1_22), (3, .int (r_38 + (1 : Int32)))]) K.1 K.2.1 dX7_findNumbers_83 rfl hl (by decide) rfl (fun ls hl => ?_)
                refine lv_goto (tgt := 44) K.1 K.2.1 dX7_findNumbers_84 (by decide) ?_
                exact ih_44 r_80 (upd c_this_number_44 ((((13 : Int32) * v1_22) + (c_this_numbers_44 (v1_22).toNatClampNeg))).toNatClampNeg v2_44) (upd c_this_numbers_44 (v1_22).toNatClampNeg ((c_this_numbers_44 (v1_22).toNatClampNeg) + (1 : Int32))) H locs ls hw hG (lv_sub hl [1, 2, 0, 3] rfl)
          exact hL_44 n_44 r_32 c_this_number_22 c_this_numbers_22 H locs ls hw hG (lv_sub hl [2, 3, 1, 0] rfl)
    exact hL_22 n_22 (0 : Int32) c_this_number c_this_numbers_2e H locs ls hw hG (lv_sub hl [1, 0] rfl)
  have hL_2 : ∀ (n : Nat), ∀ (v1_2 : Int32) (c_this_numbers_2 : Nat → Int32) (H : Heap) (locs : List Loc) (ls : Array Slot), Lp2 (b_X7_findNumbers_2 kx_2) n v1_2 c_this_numbers_2 → HW (dC, dI) A s.heap [(a_this, .inr (6, [.int c_this_columns, .int c_this_rows, .int c_this_aims, .ref a_this_lows, .ref a_this_highs, .ref a_this_rights, .ref a_this_terms, .ref a_this_costs, .ref a_this_froms, .ref a_this_tos, .int c_this_gone, .int c_this_plans, .ref a_this_planPoint, .ref a_this_planScore, .int c_this_front, .ref a_this_frontPlan, .ref a_this_frontTies, .int c_this_picks, .ref a_this_pick, .int c_this_hasClimbed, .ref a_this_end, .ref a_this_point, .ref a_this_score, .ref a_this_by, .ref a_this_four, .ref a_this_isNear, .ref a_this_number, .ref a_this_numbers, .ref a_this_place, .ref a_this_was])), (a_this_frontPlan, .inl (cI, 2000, .inl c_this_frontPlan)), (a_this_number, .inl (cI, 52, .inl c_this_number)), (a_this_numbers, .inl (cI, 4, .inl c_this_numbers_2)), (a_this_planScore, .inl (cI, 8000, .inl c_this_planScore))] H locs → lv_has ls 4 [(0, .ref a_this), (1, .int v1_2)] → W p l e rm_X7_findNumbers s m args below meth c H locs 0 0 Q (F0 m 2 ls []) := by
    intro n
    induction n with
    | zero => intro v1_2 c_this_numbers_2 H locs ls hw; exact False.elim hw
    | succ n ih_2 =>
      intro v1_2 c_this_numbers_2 H locs ls hw hG hl
      obtain ⟨w_2, hw_2, hw⟩ : ∃ w' : Int32 → (Nat → Int32) → Prop, (∀ v1_2 c_this_numbers_2, w' v1_2 c_this_numbers_2 → Lp2 (b_X7_findNumbers_2 kx_2) n v1_2 c_this_numbers_2) ∧ b_X7_findNumbers_2 kx_2 w' v1_2 c_this_numbers_2 := ⟨_, fun _ _ h => h, hw⟩
      replace ih_2 : ∀ (v1_2 : Int32) (c_this_numbers_2 : Nat → Int32) (H : Heap) (locs : List Loc) (ls : Array Slot), w_2 v1_2 c_this_numbers_2 → HW (dC, dI) A s.heap [(a_this, .inr (6, [.int c_this_columns, .int c_this_rows, .int c_this_aims, .ref a_this_lows, .ref a_this_highs, .ref a_this_rights, .ref a_this_terms, .ref a_this_costs, .ref a_this_froms, .ref a_this_tos, .int c_this_gone, .int c_this_plans, .ref a_this_planPoint, .ref a_this_planScore, .int c_this_front, .ref a_this_frontPlan, .ref a_this_frontTies, .int c_this_picks, .ref a_this_pick, .int c_this_hasClimbed, .ref a_this_end, .ref a_this_point, .ref a_this_score, .ref a_this_by, .ref a_this_four, .ref a_this_isNear, .ref a_this_number, .ref a_this_numbers, .ref a_this_place, .ref a_this_was])), (a_this_frontPlan, .inl (cI, 2000, .inl c_this_frontPlan)), (a_this_number, .inl (cI, 52, .inl c_this_number)), (a_this_numbers, .inl (cI, 4, .inl c_this_numbers_2)), (a_this_planScore, .inl (cI, 8000, .inl c_this_planScore))] H locs → lv_has ls 4 [(0, .ref a_this), (1, .int v1_2)] → W p l e rm_X7_findNumbers s m args below meth c H locs 0 0 Q (F0 m 2 ls []) := fun v1_2 c_this_numbers_2 H locs ls h => ih_2 v1_2 c_this_numbers_2 H locs ls (hw_2 _ _ h)
      unfold b_X7_findNumbers_2 at hw
      refine lv_iload_n K.1 K.2.1 dX7_findNumbers_2 rfl (lv_at hl 1 rfl) ?_
      refine lv_iconst (v := 4) K.1 K.2.1 dX7_findNumbers_3 (by decide) ?_
      refine lv_icmp_ge (tgt := 20) K.1 K.2.1 dX7_findNumbers_4 (by decide) (fun q_4 => ?_) (fun q_4 => ?_)
      · have hw := hw.1 q_4
        exact hX_2 c_this_numbers_2 H locs ls hw hG (lv_sub hl [0] rfl)
      · have hw := hw.2 q_4
        refine lv_aload_n K.1 K.2.1 dX7_findNumbers_7 rfl (lv_at hl 0 rfl) ?_
        refine g_get (v := .ref a_this_numbers) K hG hin_RX7 0 rfl rfl 27 (by decide) (K.2.2.2.2.1 (.fieldLink RX7 69 "AimFrontsModel" "numbers" "[I") (by decide +kernel)) rfl rfl dX7_findNumbers_8 ?_
        refine lv_iload_n K.1 K.2.1 dX7_findNumbers_11 rfl (lv_at hl 1 rfl) ?_
        refine lv_iconst (v := 0) K.1 K.2.1 dX7_findNumbers_12 (by decide) ?_
        obtain ⟨h_13, hw⟩ := hw
        refine g_iast (ws' := [(a_this, .inr (6, [.int c_this_columns, .int c_this_rows, .int c_this_aims, .ref a_this_lows, .ref a_this_highs, .ref a_this_rights, .ref a_this_terms, .ref a_this_costs, .ref a_this_froms, .ref a_this_tos, .int c_this_gone, .int c_this_plans, .ref a_this_planPoint, .ref a_this_planScore, .int c_this_front, .ref a_this_frontPlan, .ref a_this_frontTies, .int c_this_picks, .ref a_this_pick, .int c_this_hasClimbed, .ref a_this_end, .ref a_this_point, .ref a_this_score, .ref a_this_by, .ref a_this_four, .ref a_this_isNear, .ref a_this_number, .ref a_this_numbers, .ref a_this_place, .ref a_this_was])), (a_this_frontPlan, .inl (cI, 2000, .inl c_this_frontPlan)), (a_this_number, .inl (cI, 52, .inl c_this_number)), (a_this_numbers, .inl (cI, 4, .inl (upd c_this_numbers_2 (v1_2).toNatClampNeg (0 : Int32)))), (a_this_planScore, .inl (cI, 8000, .inl c_this_planScore))]) K hG 3 rfl h_13 rfl dX7_findNumbers_13 (fun H locs hG => ?_)
        refine lv_iinc (v := (v1_2 + (1 : Int32))) (lv' := [(1, .int (v1_2 + (1 : Int32))), (0, .ref a_this)]) K.1 K.2.1 dX7_findNumbers_14 hl (k := 1) rfl rfl (by decide) rfl (fun ls hl => ?_)
        refine lv_goto (tgt := 2) K.1 K.2.1 dX7_findNumbers_17 (by decide) ?_
        exact ih_2 (v1_2 + (1 : Int32)) (upd c_this_numbers_2 (v1_2).toNatClampNeg (0 : Int32)) H locs ls hw hG (lv_sub hl [1, 0] rfl)
  exact hL_2 n_2 (0 : Int32) c_this_numbers H locs ls hw hG (lv_sub hl [1, 0] rfl)
abbrev rm_X7_someLess : Room := { frames := 2, cells := 0, slots := 0, locals := 44 }
set_option maxHeartbeats 4000000 in
set_option maxRecDepth 100000 in
theorem k_X7_someLess (l : Launch) (dC : Nat → ClassId) (dI : Nat → Nat → Nat) (cI cJ cZ cG : ClassId) (sz : Nat) (a_this a_this_lows a_this_highs a_this_rights a_this_terms a_this_costs a_this_froms a_this_tos a_this_planPoint a_this_planScore a_this_frontPlan a_this_frontTies a_this_pick a_this_end a_this_point a_this_score a_this_by a_this_four a_this_isNear a_this_number a_this_numbers a_this_place a_this_was : Nat) (c_this_aims : Int32) (c_this_columns : Int32) (c_this_front : Int32) (c_this_frontPlan : Nat → Int32) (c_this_gone : Int32) (c_this_hasClimbed : Int32) (c_this_number : Nat → Int32) (c_this_picks : Int32) (c_this_place : Nat → Int32) (c_this_planScore : Nat → Int32) (c_this_plans : Int32) (c_this_rows : Int32) (x1 : Int32) (post : Int32 → Prop) (hw : wp_X7_someLess c_this_aims c_this_front c_this_frontPlan c_this_number c_this_place c_this_planScore x1 post) : MetI l yX7_someLess wsX7_someLess rm_X7_someLess (dC, dI) cI cJ cZ cG [.ref a_this, .int x1] sz [(a_this, .inr (6, [.int c_this_columns, .int c_this_rows, .int c_this_aims, .ref a_this_lows, .ref a_this_highs, .ref a_this_rights, .ref a_this_terms, .ref a_this_costs, .ref a_this_froms, .ref a_this_tos, .int c_this_gone, .int c_this_plans, .ref a_this_planPoint, .ref a_this_planScore, .int c_this_front, .ref a_this_frontPlan, .ref a_this_frontTies, .int c_this_picks, .ref a_this_pick, .int c_this_hasClimbed, .ref a_this_end, .ref a_this_point, .ref a_this_score, .ref a_this_by, .ref a_this_four, .ref a_this_isNear, .ref a_this_number, .ref a_this_numbers, .ref a_this_place, .ref a_this_was])), (a_this_frontPlan, .inl (cI, 2000, .inl c_this_frontPlan)), (a_this_number, .inl (cI, 52, .inl c_this_number)), (a_this_place, .inl (cI, 4, .inl c_this_place)), (a_this_planScore, .inl (cI, 8000, .inl c_this_planScore))] (fun (r : Int32) (u : Unit) => post r) (fun u => [(a_this, .inr (6, [.int c_this_columns, .int c_this_rows, .int c_this_aims, .ref a_this_lows, .ref a_this_highs, .ref a_this_rights, .ref a_this_terms, .ref a_this_costs, .ref a_this_froms, .ref a_this_tos, .int c_this_gone, .int c_this_plans, .ref a_this_planPoint, .ref a_this_planScore, .int c_this_front, .ref a_this_frontPlan, .ref a_this_frontTies, .int c_this_picks, .ref a_this_pick, .int c_this_hasClimbed, .ref a_this_end, .ref a_this_point, .ref a_this_score, .ref a_this_by, .ref a_this_four, .ref a_this_isNear, .ref a_this_number, .ref a_this_numbers, .ref a_this_place, .ref a_this_was])), (a_this_frontPlan, .inl (cI, 2000, .inl c_this_frontPlan)), (a_this_number, .inl (cI, 52, .inl c_this_number)), (a_this_place, .inl (cI, 4, .inl c_this_place)), (a_this_planScore, .inl (cI, 8000, .inl c_this_planScore))]) := by
  refine met_i (ty := .boolean) (Or.inr rfl) (cc := cX7_someLess) (maxL := 5) (by decide) rfl (Nat.le_of_ble_eq_true rfl) ?_
  intro p e s m args below meth c A Q H locs ls K hG hl hret
  have hl : lv_has ls 5 [(0, .ref a_this), (1, .int x1)] := hl
  have hin_RX7 : ∀ w ∈ u_ws RX7 TX7 30, w ∈ wsX7_someLess := by decide +kernel
  unfold wp_X7_someLess at hw
  refine lv_iconst (v := 0) K.1 K.2.1 dX7_someLess_0 (by decide) ?_
  refine lv_istore_n (lv' := [(2, .int (0 : Int32)), (0, .ref a_this), (1, .int x1)]) K.1 K.2.1 dX7_someLess_1 rfl hl (by decide) rfl (fun ls hl => ?_)
  refine lv_iconst (v := 0) K.1 K.2.1 dX7_someLess_2 (by decide) ?_
  refine lv_istore_n (lv' := [(3, .int (0 : Int32)), (2, .int (0 : Int32)), (0, .ref a_this), (1, .int x1)]) K.1 K.2.1 dX7_someLess_3 rfl hl (by decide) rfl (fun ls hl => ?_)
  obtain ⟨kx_4, hkx_4, n_4, hw⟩ := Lx1_2_abs hw
  have hX_4 : ∀ (v2_4e : Int32) (H : Heap) (locs : List Loc) (ls : Array Slot), kx_4 v2_4e → HW (dC, dI) A s.heap [(a_this, .inr (6, [.int c_this_columns, .int c_this_rows, .int c_this_aims, .ref a_this_lows, .ref a_this_highs, .ref a_this_rights, .ref a_this_terms, .ref a_this_costs, .ref a_this_froms, .ref a_this_tos, .int c_this_gone, .int c_this_plans, .ref a_this_planPoint, .ref a_this_planScore, .int c_this_front, .ref a_this_frontPlan, .ref a_this_frontTies, .int c_this_picks, .ref a_this_pick, .int c_this_hasClimbed, .ref a_this_end, .ref a_this_point, .ref a_this_score, .ref a_this_by, .ref a_this_four, .ref a_this_isNear, .ref a_this_number, .ref a_this_numbers, .ref a_this_place, .ref a_this_was])), (a_this_frontPlan, .inl (cI, 2000, .inl c_this_frontPlan)), (a_this_number, .inl (cI, 52, .inl c_this_number)), (a_this_place, .inl (cI, 4, .inl c_this_place)), (a_this_planScore, .inl (cI, 8000, .inl c_this_planScore))] H locs → lv_has ls 5 [(2, .int v2_4e)] → W p l e rm_X7_someLess s m args below meth c H locs 0 0 Q (F0 m 92 ls []) := by
    intro v2_4e H locs ls hw hG hl
    have hw := hkx_4 _ hw
    refine lv_iload_n K.1 K.2.1 dX7_someLess_92 rfl (lv_at hl 0 rfl) ?_
    exact hret v2_4e () H locs _ ls dX7_someLess_93 hw.1 hw.2 hG
  have hL_4 : ∀ (n : Nat), ∀ (v2_4 : Int32) (v3_4 : Int32) (H : Heap) (locs : List Loc) (ls : Array Slot), Lp2 (b_X7_someLess_4 c_this_aims c_this_front c_this_frontPlan c_this_number c_this_place c_this_planScore x1 kx_4) n v2_4 v3_4 → HW (dC, dI) A s.heap [(a_this, .inr (6, [.int c_this_columns, .int c_this_rows, .int c_this_aims, .ref a_this_lows, .ref a_this_highs, .ref a_this_rights, .ref a_this_terms, .ref a_this_costs, .ref a_this_froms, .ref a_this_tos, .int c_this_gone, .int c_this_plans, .ref a_this_planPoint, .ref a_this_planScore, .int c_this_front, .ref a_this_frontPlan, .ref a_this_frontTies, .int c_this_picks, .ref a_this_pick, .int c_this_hasClimbed, .ref a_this_end, .ref a_this_point, .ref a_this_score, .ref a_this_by, .ref a_this_four, .ref a_this_isNear, .ref a_this_number, .ref a_this_numbers, .ref a_this_place, .ref a_this_was])), (a_this_frontPlan, .inl (cI, 2000, .inl c_this_frontPlan)), (a_this_number, .inl (cI, 52, .inl c_this_number)), (a_this_place, .inl (cI, 4, .inl c_this_place)), (a_this_planScore, .inl (cI, 8000, .inl c_this_planScore))] H locs → lv_has ls 5 [(0, .ref a_this), (1, .int x1), (2, .int v2_4), (3, .int v3_4)] → W p l e rm_X7_someLess s m args below meth c H locs 0 0 Q (F0 m 4 ls []) := by
    intro n
    induction n with
    | zero => intro v2_4 v3_4 H locs ls hw; exact False.elim hw
    | succ n ih_4 =>
      intro v2_4 v3_4 H locs ls hw hG hl
      obtain ⟨w_4, hw_4, hw⟩ : ∃ w' : Int32 → Int32 → Prop, (∀ v2_4 v3_4, w' v2_4 v3_4 → Lp2 (b_X7_someLess_4 c_this_aims c_this_front c_this_frontPlan c_this_number c_this_place c_this_planScore x1 kx_4) n v2_4 v3_4) ∧ b_X7_someLess_4 c_this_aims c_this_front c_this_frontPlan c_this_number c_this_place c_this_planScore x1 kx_4 w' v2_4 v3_4 := ⟨_, fun _ _ h => h, hw⟩
      replace ih_4 : ∀ (v2_4 : Int32) (v3_4 : Int32) (H : Heap) (locs : List Loc) (ls : Array Slot), w_4 v2_4 v3_4 → HW (dC, dI) A s.heap [(a_this, .inr (6, [.int c_this_columns, .int c_this_rows, .int c_this_aims, .ref a_this_lows, .ref a_this_highs, .ref a_this_rights, .ref a_this_terms, .ref a_this_costs, .ref a_this_froms, .ref a_this_tos, .int c_this_gone, .int c_this_plans, .ref a_this_planPoint, .ref a_this_planScore, .int c_this_front, .ref a_this_frontPlan, .ref a_this_frontTies, .int c_this_picks, .ref a_this_pick, .int c_this_hasClimbed, .ref a_this_end, .ref a_this_point, .ref a_this_score, .ref a_this_by, .ref a_this_four, .ref a_this_isNear, .ref a_this_number, .ref a_this_numbers, .ref a_this_place, .ref a_this_was])), (a_this_frontPlan, .inl (cI, 2000, .inl c_this_frontPlan)), (a_this_number, .inl (cI, 52, .inl c_this_number)), (a_this_place, .inl (cI, 4, .inl c_this_place)), (a_this_planScore, .inl (cI, 8000, .inl c_this_planScore))] H locs → lv_has ls 5 [(0, .ref a_this), (1, .int x1), (2, .int v2_4), (3, .int v3_4)] → W p l e rm_X7_someLess s m args below meth c H locs 0 0 Q (F0 m 4 ls []) := fun v2_4 v3_4 H locs ls h => ih_4 v2_4 v3_4 H locs ls (hw_4 _ _ h)
      unfold b_X7_someLess_4 at hw
      refine lv_iload_n K.1 K.2.1 dX7_someLess_4 rfl (lv_at hl 3 rfl) ?_
      refine lv_aload_n K.1 K.2.1 dX7_someLess_5 rfl (lv_at hl 0 rfl) ?_
      refine g_get (v := .int c_this_front) K hG hin_RX7 0 rfl rfl 14 (by decide) (K.2.2.2.2.1 (.fieldLink RX7 98 "AimFrontsModel" "front" "I") (by decide +kernel)) rfl rfl dX7_someLess_6 ?_
      refine lv_icmp_ge (tgt := 92) K.1 K.2.1 dX7_someLess_9 (by decide) (fun q_9 => ?_) (fun q_9 => ?_)
      · have hw := hw.1 q_9
        exact hX_4 v2_4 H locs ls hw hG (lv_sub hl [2] rfl)
      · have hw := hw.2 q_9
        refine lv_iload_n K.1 K.2.1 dX7_someLess_12 rfl (lv_at hl 2 rfl) ?_
        refine lv_if_ne (tgt := 92) K.1 K.2.1 dX7_someLess_13 (by decide) (fun q_13 => ?_) (fun q_13 => ?_)
        · have hw := hw.2 q_13
          exact hX_4 v2_4 H locs ls hw hG (lv_sub hl [2] rfl)
        · have hw := hw.1 q_13
          refine lv_iconst (v := 1) K.1 K.2.1 dX7_someLess_16 (by decide) ?_
          refine lv_istore_n (lv' := [(2, .int (1 : Int32)), (0, .ref a_this), (1, .int x1), (3, .int v3_4)]) K.1 K.2.1 dX7_someLess_17 rfl hl (by decide) rfl (fun ls hl => ?_)
          refine lv_iconst (v := 0) K.1 K.2.1 dX7_someLess_18 (by decide) ?_
          refine lv_istore (lv' := [(4, .int (0 : Int32)), (2, .int (1 : Int32)), (0, .ref a_this), (1, .int x1), (3, .int v3_4)]) K.1 K.2.1 dX7_someLess_19 hl (by decide) rfl (fun ls hl => ?_)
          obtain ⟨kx_21, hkx_21, n_21, hw⟩ := Lx1_2_abs hw
          have hX_21 : ∀ (v2_21e : Int32) (H : Heap) (locs : List Loc) (ls : Array Slot), kx_21 v2_21e → HW (dC, dI) A s.heap [(a_this, .inr (6, [.int c_this_columns, .int c_this_rows, .int c_this_aims, .ref a_this_lows, .ref a_this_highs, .ref a_this_rights, .ref a_this_terms, .ref a_this_costs, .ref a_this_froms, .ref a_this_tos, .int c_this_gone, .int c_this_plans, .ref a_this_planPoint, .ref a_this_planScore, .int c_this_front, .ref a_this_frontPlan, .ref a_this_frontTies, .int c_this_picks, .ref a_this_pick, .int c_this_hasClimbed, .ref a_this_end, .ref a_this_point, .ref a_this_score, .ref a_this_by, .ref a_this_four, .ref a_this_isNear, .ref a_this_number, .ref a_this_numbers, .ref a_this_place, .ref a_this_was])), (a_this_frontPlan, .inl (cI, 2000, .inl c_this_frontPlan)), (a_this_number, .inl (cI, 52, .inl c_this_number)), (a_this_place, .inl (cI, 4, .inl c_this_place)), (a_this_planScore, .inl (cI, 8000, .inl c_this_planScore))] H locs → lv_has ls 5 [(0, .ref a_this), (1, .int x1), (2, .int v2_21e), (3, .int v3_4)] → W p l e rm_X7_someLess s m args below meth c H locs 0 0 Q (F0 m 86 ls []) := by
            intro v2_21e H locs ls hw hG hl
            have hw := hkx_21 _ hw
            refine lv_iinc (v := (v3_4 + (1 : Int32))) (lv' := [(3, .int (v3_4 + (1 : Int32))), (0, .ref a_this), (1, .int x1), (2, .int v2_21e)]) K.1 K.2.1 dX7_someLess_86 hl (k := 3) rfl rfl (by decide) rfl (fun ls hl => ?_)
            refine lv_goto (tgt := 4) K.1 K.2.1 dX7_someLess_89 (by decide) ?_
            exact ih_4 v2_21e (v3_4 + (1 : Int32)) H locs ls hw hG (lv_sub hl [1, 2, 3, 0] rfl)
          have hL_21 : ∀ (n : Nat), ∀ (v2_21 : Int32) (v4_21 : Int32) (H : Heap) (locs : List Loc) (ls : Array Slot), Lp2 (b_X7_someLess_21 c_this_aims c_this_frontPlan c_this_number c_this_place c_this_planScore x1 v3_4 kx_21) n v2_21 v4_21 → HW (dC, dI) A s.heap [(a_this, .inr (6, [.int c_this_columns, .int c_this_rows, .int c_this_aims, .ref a_this_lows, .ref a_this_highs, .ref a_this_rights, .ref a_this_terms, .ref a_this_costs, .ref a_this_froms, .ref a_this_tos, .int c_this_gone, .int c_this_plans, .ref a_this_planPoint, .ref a_this_planScore, .int c_this_front, .ref a_this_frontPlan, .ref a_this_frontTies, .int c_this_picks, .ref a_this_pick, .int c_this_hasClimbed, .ref a_this_end, .ref a_this_point, .ref a_this_score, .ref a_this_by, .ref a_this_four, .ref a_this_isNear, .ref a_this_number, .ref a_this_numbers, .ref a_this_place, .ref a_this_was])), (a_this_frontPlan, .inl (cI, 2000, .inl c_this_frontPlan)), (a_this_number, .inl (cI, 52, .inl c_this_number)), (a_this_place, .inl (cI, 4, .inl c_this_place)), (a_this_planScore, .inl (cI, 8000, .inl c_this_planScore))] H locs → lv_has ls 5 [(0, .ref a_this), (1, .int x1), (2, .int v2_21), (3, .int v3_4), (4, .int v4_21)] → W p l e rm_X7_someLess s m args below meth c H locs 0 0 Q (F0 m 21 ls []) := by
            intro n
            induction n with
            | zero => intro v2_21 v4_21 H locs ls hw; exact False.elim hw
            | succ n ih_21 =>
              intro v2_21 v4_21 H locs ls hw hG hl
              obtain ⟨w_21, hw_21, hw⟩ : ∃ w' : Int32 → Int32 → Prop, (∀ v2_21 v4_21, w' v2_21 v4_21 → Lp2 (b_X7_someLess_21 c_this_aims c_this_frontPlan c_this_number c_this_place c_this_planScore x1 v3_4 kx_21) n v2_21 v4_21) ∧ b_X7_someLess_21 c_this_aims c_this_frontPlan c_this_number c_this_place c_this_planScore x1 v3_4 kx_21 w' v2_21 v4_21 := ⟨_, fun _ _ h => h, hw⟩
              replace ih_21 : ∀ (v2_21 : Int32) (v4_21 : Int32) (H : Heap) (locs : List Loc) (ls : Array Slot), w_21 v2_21 v4_21 → HW (dC, dI) A s.heap [(a_this, .inr (6, [.int c_this_columns, .int c_this_rows, .int c_this_aims, .ref a_this_lows, .ref a_this_highs, .ref a_this_rights, .ref a_this_terms, .ref a_this_costs, .ref a_this_froms, .ref a_this_tos, .int c_this_gone, .int c_this_plans, .ref a_this_planPoint, .ref a_this_planScore, .int c_this_front, .ref a_this_frontPlan, .ref a_this_frontTies, .int c_this_picks, .ref a_this_pick, .int c_this_hasClimbed, .ref a_this_end, .ref a_this_point, .ref a_this_score, .ref a_this_by, .ref a_this_four, .ref a_this_isNear, .ref a_this_number, .ref a_this_numbers, .ref a_this_place, .ref a_this_was])), (a_this_frontPlan, .inl (cI, 2000, .inl c_this_frontPlan)), (a_this_number, .inl (cI, 52, .inl c_this_number)), (a_this_place, .inl (cI, 4, .inl c_this_place)), (a_this_planScore, .inl (cI, 8000, .inl c_this_planScore))] H locs → lv_has ls 5 [(0, .ref a_this), (1, .int x1), (2, .int v2_21), (3, .int v3_4), (4, .int v4_21)] → W p l e rm_X7_someLess s m args below meth c H locs 0 0 Q (F0 m 21 ls []) := fun v2_21 v4_21 H locs ls h => ih_21 v2_21 v4_21 H locs ls (hw_21 _ _ h)
              unfold b_X7_someLess_21 at hw
              refine lv_iload K.1 K.2.1 dX7_someLess_21 (lv_at hl 4 rfl) ?_
              refine lv_aload_n K.1 K.2.1 dX7_someLess_23 rfl (lv_at hl 0 rfl) ?_
              refine g_get (v := .int c_this_aims) K hG hin_RX7 0 rfl rfl 2 (by decide) (K.2.2.2.2.1 (.fieldLink RX7 89 "AimFrontsModel" "aims" "I") (by decide +kernel)) rfl rfl dX7_someLess_24 ?_
              refine lv_icmp_ge (tgt := 86) K.1 K.2.1 dX7_someLess_27 (by decide) (fun q_27 => ?_) (fun q_27 => ?_)
              · have hw := hw.1 q_27
                exact hX_21 v2_21 H locs ls hw hG (lv_sub hl [0, 1, 2, 3] rfl)
              · have hw := hw.2 q_27
                refine lv_iload_n K.1 K.2.1 dX7_someLess_30 rfl (lv_at hl 2 rfl) ?_
                refine lv_if_eq (tgt := 78) K.1 K.2.1 dX7_someLess_31 (by decide) (fun q_31 => ?_) (fun q_31 => ?_)
                · have hw := hw.1 q_31
                  refine lv_iconst (v := 0) K.1 K.2.1 dX7_someLess_78 (by decide) ?_
                  refine lv_istore_n (lv' := [(2, .int (0 : Int32)), (0, .ref a_this), (1, .int x1), (3, .int v3_4), (4, .int v4_21)]) K.1 K.2.1 dX7_someLess_79 rfl hl (by decide) rfl (fun ls hl => ?_)
                  refine lv_iinc (v := (v4_21 + (1 : Int32))) (lv' := [(4, .int (v4_21 + (1 : Int32))), (2, .int (0 : Int32)), (0, .ref a_this), (1, .int x1), (3, .int v3_4)]) K.1 K.2.1 dX7_someLess_80 hl (k := 4) rfl rfl (by decide) rfl (fun ls hl => ?_)
                  refine lv_goto (tgt := 21) K.1 K.2.1 dX7_someLess_83 (by decide) ?_
                  exact ih_21 (0 : Int32) (v4_21 + (1 : Int32)) H locs ls hw hG (lv_sub hl [2, 3, 1, 4, 0] rfl)
                · have hw := hw.2 q_31
                  refine lv_aload_n K.1 K.2.1 dX7_someLess_34 rfl (lv_at hl 0 rfl) ?_
                  refine lv_iload_n K.1 K.2.1 dX7_someLess_35 rfl (lv_at hl 3 rfl) ?_
                  refine lv_iload K.1 K.2.1 dX7_someLess_36 (lv_at hl 4 rfl) ?_
                  refine g_ri K hG [0, 1, 4] rfl (g_runV (As := [.int v3_4, .int v4_21]) (rest := []) K hG hl [0, 1, 4] rfl rfl 0 rfl rfl (k_X7_at l dC dI cI cJ cZ cG H.size a_this a_this_lows a_this_highs a_this_rights a_this_terms a_this_costs a_this_froms a_this_tos a_this_planPoint a_this_planScore a_this_frontPlan a_this_frontTies a_this_pick a_this_end a_this_point a_this_score a_this_by a_this_four a_this_isNear a_this_number a_this_numbers a_this_place a_this_was c_this_aims c_this_columns c_this_front c_this_frontPlan c_this_gone c_this_hasClimbed c_this_picks c_this_planScore c_this_plans c_this_rows v3_4 v4_21 _ hw) (cwV 2 K.2.2.2.2.1 gX7_someLess_X7_at rfl rfl rfl (by decide +kernel) ⟨by decide, by decide⟩) rfl rfl (Nat.le_of_ble_eq_true rfl) ⟨Nat.zero_le _, Nat.zero_le _⟩ dX7_someLess_38) (fun r_38 H locs hw hG => ?_)
                  refine lv_aload_n K.1 K.2.1 dX7_someLess_41 rfl (lv_at hl 0 rfl) ?_
                  refine g_get (v := .ref a_this_number) K hG hin_RX7 0 rfl rfl 26 (by decide) (K.2.2.2.2.1 (.fieldLink RX7 66 "AimFrontsModel" "number" "[I") (by decide +kernel)) rfl rfl dX7_someLess_42 ?_
                  refine lv_bipush (v := 13) K.1 K.2.1 dX7_someLess_45 (by decide) ?_
                  refine lv_iload K.1 K.2.1 dX7_someLess_47 (lv_at hl 4 rfl) ?_
                  refine lv_imul K.1 K.2.1 dX7_someLess_49 ?_
                  refine lv_aload_n K.1 K.2.1 dX7_someLess_50 rfl (lv_at hl 0 rfl) ?_
                  refine g_get (v := .ref a_this_place) K hG hin_RX7 0 rfl rfl 28 (by decide) (K.2.2.2.2.1 (.fieldLink RX7 72 "AimFrontsModel" "place" "[I") (by decide +kernel)) rfl rfl dX7_someLess_51 ?_
                  refine lv_iload K.1 K.2.1 dX7_someLess_54 (lv_at hl 4 rfl) ?_
                  obtain ⟨h_56, hw⟩ := hw
                  refine g_iald K hG 3 rfl h_56 dX7_someLess_56 ?_
                  refine lv_iadd K.1 K.2.1 dX7_someLess_57 ?_
                  refine lv_iload K.1 K.2.1 dX7_someLess_58 (lv_at hl 4 rfl) ?_
                  refine lv_iload_n K.1 K.2.1 dX7_someLess_60 rfl (lv_at hl 1 rfl) ?_
                  obtain ⟨k_j69, hk_j69, hw⟩ := jn1_abs hw
                  have hJ_j69 : ∀ (s3_j69 : Int32) (H : Heap) (locs : List Loc) (ls : Array Slot), k_j69 s3_j69 → HW (dC, dI) A s.heap [(a_this, .inr (6, [.int c_this_columns, .int c_this_rows, .int c_this_aims, .ref a_this_lows, .ref a_this_highs, .ref a_this_rights, .ref a_this_terms, .ref a_this_costs, .ref a_this_froms, .ref a_this_tos, .int c_this_gone, .int c_this_plans, .ref a_this_planPoint, .ref a_this_planScore, .int c_this_front, .ref a_this_frontPlan, .ref a_this_frontTies, .int c_this_picks, .ref a_this_pick, .int c_this_hasClimbed, .ref a_this_end, .ref a_this_point, .ref a_this_score, .ref a_this_by, .ref a_this_four, .ref a_this_isNear, .ref a_this_number, .ref a_this_numbers, .ref a_this_place, .ref a_this_was])), (a_this_frontPlan, .inl (cI, 2000, .inl c_this_frontPlan)), (a_this_number, .inl (cI, 52, .inl c_this_number)), (a_this_place, .inl (cI, 4, .inl c_this_place)), (a_this_planScore, .inl (cI, 8000, .inl c_this_planScore))] H locs → lv_has ls 5 [(0, .ref a_this), (1, .int x1), (3, .int v3_4), (4, .int v4_21)] → W p l e rm_X7_someLess s m args below meth c H locs 0 0 Q (F0 m 69 ls [.int s3_j69, .int (((13 : Int32) * v4_21) + (c_this_place (v4_21).toNatClampNeg)), .ref a_this_number, .int r_38]) := by
                    intro s3_j69 H locs ls hw hG hl
                    have hw := hk_j69 _ hw
                    refine lv_iadd K.1 K.2.1 dX7_someLess_69 ?_
                    obtain ⟨h_70, hw⟩ := hw
                    refine g_iald K hG 2 rfl h_70 dX7_someLess_70 ?_
                    refine lv_icmp_ge (tgt := 78) K.1 K.2.1 dX7_someLess_71 (by decide) (fun q_71 => ?_) (fun q_71 => ?_)
                    · have hw := hw.1 q_71
                      refine lv_iconst (v := 0) K.1 K.2.1 dX7_someLess_78 (by decide) ?_
                      refine lv_istore_n (lv' := [(2, .int (0 : Int32)), (0, .ref a_this), (1, .int x1), (3, .int v3_4), (4, .int v4_21)]) K.1 K.2.1 dX7_someLess_79 rfl hl (by decide) rfl (fun ls hl => ?_)
                      refine lv_iinc (v := (v4_21 + (1 : Int32))) (lv' := [(4, .int (v4_21 + (1 : Int32))), (2, .int (0 : Int32)), (0, .ref a_this), (1, .int x1), (3, .int v3_4)]) K.1 K.2.1 dX7_someLess_80 hl (k := 4) rfl rfl (by decide) rfl (fun ls hl => ?_)
                      refine lv_goto (tgt := 21) K.1 K.2.1 dX7_someLess_83 (by decide) ?_
                      exact ih_21 (0 : Int32) (v4_21 + (1 : Int32)) H locs ls hw hG (lv_sub hl [2, 3, 1, 4, 0] rfl)
                    · have hw := hw.2 q_71
                      refine lv_iconst (v := 1) K.1 K.2.1 dX7_someLess_74 (by decide) ?_
                      refine lv_goto (tgt := 79) K.1 K.2.1 dX7_someLess_75 (by decide) ?_
                      refine lv_istore_n (lv' := [(2, .int (1 : Int32)), (0, .ref a_this), (1, .int x1), (3, .int v3_4), (4, .int v4_21)]) K.1 K.2.1 dX7_someLess_79 rfl hl (by decide) rfl (fun ls hl => ?_)
                      refine lv_iinc (v := (v4_21 + (1 : Int32))) (lv' := [(4, .int (v4_21 + (1 : Int32))), (2, .int (1 : Int32)), (0, .ref a_this), (1, .int x1), (3, .int v3_4)]) K.1 K.2.1 dX7_someLess_80 hl (k := 4) rfl rfl (by decide) rfl (fun ls hl => ?_)
                      refine lv_goto (tgt := 21) K.1 K.2.1 dX7_someLess_83 (by decide) ?_
                      exact ih_21 (1 : Int32) (v4_21 + (1 : Int32)) H locs ls hw hG (lv_sub hl [2, 3, 1, 4, 0] rfl)
                  refine lv_icmp_ne (tgt := 68) K.1 K.2.1 dX7_someLess_61 (by decide) (fun q_61 => ?_) (fun q_61 => ?_)
                  · have hw := hw.2 q_61
                    refine lv_iconst (v := 0) K.1 K.2.1 dX7_someLess_68 (by decide) ?_
                    exact hJ_j69 (0 : Int32) H locs ls hw hG (lv_sub hl [0, 1, 3, 4] rfl)
                  · have hw := hw.1 q_61
                    refine lv_iconst (v := 1) K.1 K.2.1 dX7_someLess_64 (by decide) ?_
                    refine lv_goto (tgt := 69) K.1 K.2.1 dX7_someLess_65 (by decide) ?_
                    exact hJ_j69 (1 : Int32) H locs ls hw hG (lv_sub hl [0, 1, 3, 4] rfl)
          exact hL_21 n_21 (1 : Int32) (0 : Int32) H locs ls hw hG (lv_sub hl [2, 3, 1, 4, 0] rfl)
  exact hL_4 n_4 (0 : Int32) (0 : Int32) H locs ls hw hG (lv_sub hl [2, 3, 1, 0] rfl)
abbrev rm_X7_isBox : Room := { frames := 3, cells := 0, slots := 0, locals := 68 }
set_option maxHeartbeats 4000000 in
set_option maxRecDepth 100000 in
theorem k_X7_isBox (l : Launch) (dC : Nat → ClassId) (dI : Nat → Nat → Nat) (cI cJ cZ cG : ClassId) (sz : Nat) (a_this a_this_lows a_this_highs a_this_rights a_this_terms a_this_costs a_this_froms a_this_tos a_this_planPoint a_this_planScore a_this_frontPlan a_this_frontTies a_this_pick a_this_end a_this_point a_this_score a_this_by a_this_four a_this_isNear a_this_number a_this_numbers a_this_place a_this_was : Nat) (c_this_aims : Int32) (c_this_columns : Int32) (c_this_front : Int32) (c_this_frontPlan : Nat → Int32) (c_this_gone : Int32) (c_this_hasClimbed : Int32) (c_this_number : Nat → Int32) (c_this_numbers : Nat → Int32) (c_this_picks : Int32) (c_this_place : Nat → Int32) (c_this_planScore : Nat → Int32) (c_this_plans : Int32) (c_this_rows : Int32) (post : Int32 → Prop) (hw : wp_X7_isBox c_this_aims c_this_front c_this_frontPlan c_this_number c_this_numbers c_this_place c_this_planScore post) : MetI l yX7_isBox wsX7_isBox rm_X7_isBox (dC, dI) cI cJ cZ cG [.ref a_this] sz [(a_this, .inr (6, [.int c_this_columns, .int c_this_rows, .int c_this_aims, .ref a_this_lows, .ref a_this_highs, .ref a_this_rights, .ref a_this_terms, .ref a_this_costs, .ref a_this_froms, .ref a_this_tos, .int c_this_gone, .int c_this_plans, .ref a_this_planPoint, .ref a_this_planScore, .int c_this_front, .ref a_this_frontPlan, .ref a_this_frontTies, .int c_this_picks, .ref a_this_pick, .int c_this_hasClimbed, .ref a_this_end, .ref a_this_point, .ref a_this_score, .ref a_this_by, .ref a_this_four, .ref a_this_isNear, .ref a_this_number, .ref a_this_numbers, .ref a_this_place, .ref a_this_was])), (a_this_frontPlan, .inl (cI, 2000, .inl c_this_frontPlan)), (a_this_number, .inl (cI, 52, .inl c_this_number)), (a_this_numbers, .inl (cI, 4, .inl c_this_numbers)), (a_this_place, .inl (cI, 4, .inl c_this_place)), (a_this_planScore, .inl (cI, 8000, .inl c_this_planScore))] (fun (r : Int32) (u : Unit) => post r) (fun u => [(a_this, .inr (6, [.int c_this_columns, .int c_this_rows, .int c_this_aims, .ref a_this_lows, .ref a_this_highs, .ref a_this_rights, .ref a_this_terms, .ref a_this_costs, .ref a_this_froms, .ref a_this_tos, .int c_this_gone, .int c_this_plans, .ref a_this_planPoint, .ref a_this_planScore, .int c_this_front, .ref a_this_frontPlan, .ref a_this_frontTies, .int c_this_picks, .ref a_this_pick, .int c_this_hasClimbed, .ref a_this_end, .ref a_this_point, .ref a_this_score, .ref a_this_by, .ref a_this_four, .ref a_this_isNear, .ref a_this_number, .ref a_this_numbers, .ref a_this_place, .ref a_this_was])), (a_this_frontPlan, .inl (cI, 2000, .inl c_this_frontPlan)), (a_this_number, .inl (cI, 52, .inl c_this_number)), (a_this_numbers, .inl (cI, 4, .inl c_this_numbers)), (a_this_place, .inl (cI, 4, .inl c_this_place)), (a_this_planScore, .inl (cI, 8000, .inl c_this_planScore))]) := by
  refine met_i (ty := .boolean) (Or.inr rfl) (cc := cX7_isBox) (maxL := 3) (by decide) rfl (Nat.le_of_ble_eq_true rfl) ?_
  intro p e s m args below meth c A Q H locs ls K hG hl hret
  have hl : lv_has ls 3 [(0, .ref a_this)] := hl
  have hin_RX7 : ∀ w ∈ u_ws RX7 TX7 30, w ∈ wsX7_isBox := by decide +kernel
  unfold wp_X7_isBox at hw
  refine lv_aload_n K.1 K.2.1 dX7_isBox_0 rfl (lv_at hl 0 rfl) ?_
  refine lv_ldc (v := -1000000) K.1 K.2.1 K.2.2.2.1 (K.2.2.2.2.1 (.constant RX7 200 (-1000000)) (by decide +kernel)) dX7_isBox_1 ?_
  refine g_ri K hG [0, 1, 2, 4, 5] rfl (g_runV (As := [.int (-1000000 : Int32)]) (rest := []) K hG hl [0, 1, 2, 4, 5] rfl rfl 0 rfl rfl (k_X7_someLess l dC dI cI cJ cZ cG H.size a_this a_this_lows a_this_highs a_this_rights a_this_terms a_this_costs a_this_froms a_this_tos a_this_planPoint a_this_planScore a_this_frontPlan a_this_frontTies a_this_pick a_this_end a_this_point a_this_score a_this_by a_this_four a_this_isNear a_this_number a_this_numbers a_this_place a_this_was c_this_aims c_this_columns c_this_front c_this_frontPlan c_this_gone c_this_hasClimbed c_this_number c_this_picks c_this_place c_this_planScore c_this_plans c_this_rows (-1000000 : Int32) _ hw) (cwV 1 K.2.2.2.2.1 gX7_isBox_X7_someLess rfl rfl rfl (by decide +kernel) ⟨by decide, by decide⟩) rfl rfl (Nat.le_of_ble_eq_true rfl) ⟨Nat.zero_le _, Nat.zero_le _⟩ dX7_isBox_3) (fun r_3 H locs hw hG => ?_)
  refine lv_if_ne (tgt := 13) K.1 K.2.1 dX7_isBox_6 (by decide) (fun q_6 => ?_) (fun q_6 => ?_)
  · have hw := hw.2 q_6
    refine lv_iconst (v := 0) K.1 K.2.1 dX7_isBox_13 (by decide) ?_
    refine lv_istore_n (lv' := [(1, .int (0 : Int32)), (0, .ref a_this)]) K.1 K.2.1 dX7_isBox_14 rfl hl (by decide) rfl (fun ls hl => ?_)
    refine lv_iconst (v := 0) K.1 K.2.1 dX7_isBox_15 (by decide) ?_
    refine lv_istore_n (lv' := [(2, .int (0 : Int32)), (1, .int (0 : Int32)), (0, .ref a_this)]) K.1 K.2.1 dX7_isBox_16 rfl hl (by decide) rfl (fun ls hl => ?_)
    obtain ⟨kx_17, hkx_17, n_17, hw⟩ := Lx1_2_abs hw
    have hX_17 : ∀ (v1_17e : Int32) (H : Heap) (locs : List Loc) (ls : Array Slot), kx_17 v1_17e → HW (dC, dI) A s.heap [(a_this, .inr (6, [.int c_this_columns, .int c_this_rows, .int c_this_aims, .ref a_this_lows, .ref a_this_highs, .ref a_this_rights, .ref a_this_terms, .ref a_this_costs, .ref a_this_froms, .ref a_this_tos, .int c_this_gone, .int c_this_plans, .ref a_this_planPoint, .ref a_this_planScore, .int c_this_front, .ref a_this_frontPlan, .ref a_this_frontTies, .int c_this_picks, .ref a_this_pick, .int c_this_hasClimbed, .ref a_this_end, .ref a_this_point, .ref a_this_score, .ref a_this_by, .ref a_this_four, .ref a_this_isNear, .ref a_this_number, .ref a_this_numbers, .ref a_this_place, .ref a_this_was])), (a_this_frontPlan, .inl (cI, 2000, .inl c_this_frontPlan)), (a_this_number, .inl (cI, 52, .inl c_this_number)), (a_this_numbers, .inl (cI, 4, .inl c_this_numbers)), (a_this_place, .inl (cI, 4, .inl c_this_place)), (a_this_planScore, .inl (cI, 8000, .inl c_this_planScore))] H locs → lv_has ls 3 [(1, .int v1_17e)] → W p l e rm_X7_isBox s m args below meth c H locs 0 0 Q (F0 m 66 ls []) := by
      intro v1_17e H locs ls hw hG hl
      have hw := hkx_17 _ hw
      refine lv_iload_n K.1 K.2.1 dX7_isBox_66 rfl (lv_at hl 0 rfl) ?_
      exact hret v1_17e () H locs _ ls dX7_isBox_67 hw.1 hw.2 hG
    have hL_17 : ∀ (n : Nat), ∀ (v1_17 : Int32) (v2_17 : Int32) (H : Heap) (locs : List Loc) (ls : Array Slot), Lp2 (b_X7_isBox_17 c_this_aims c_this_front c_this_frontPlan c_this_number c_this_numbers c_this_place c_this_planScore kx_17) n v1_17 v2_17 → HW (dC, dI) A s.heap [(a_this, .inr (6, [.int c_this_columns, .int c_this_rows, .int c_this_aims, .ref a_this_lows, .ref a_this_highs, .ref a_this_rights, .ref a_this_terms, .ref a_this_costs, .ref a_this_froms, .ref a_this_tos, .int c_this_gone, .int c_this_plans, .ref a_this_planPoint, .ref a_this_planScore, .int c_this_front, .ref a_this_frontPlan, .ref a_this_frontTies, .int c_this_picks, .ref a_this_pick, .int c_this_hasClimbed, .ref a_this_end, .ref a_this_point, .ref a_this_score, .ref a_this_by, .ref a_this_four, .ref a_this_isNear, .ref a_this_number, .ref a_this_numbers, .ref a_this_place, .ref a_this_was])), (a_this_frontPlan, .inl (cI, 2000, .inl c_this_frontPlan)), (a_this_number, .inl (cI, 52, .inl c_this_number)), (a_this_numbers, .inl (cI, 4, .inl c_this_numbers)), (a_this_place, .inl (cI, 4, .inl c_this_place)), (a_this_planScore, .inl (cI, 8000, .inl c_this_planScore))] H locs → lv_has ls 3 [(0, .ref a_this), (1, .int v1_17), (2, .int v2_17)] → W p l e rm_X7_isBox s m args below meth c H locs 0 0 Q (F0 m 17 ls []) := by
      intro n
      induction n with
      | zero => intro v1_17 v2_17 H locs ls hw; exact False.elim hw
      | succ n ih_17 =>
        intro v1_17 v2_17 H locs ls hw hG hl
        obtain ⟨w_17, hw_17, hw⟩ : ∃ w' : Int32 → Int32 → Prop, (∀ v1_17 v2_17, w' v1_17 v2_17 → Lp2 (b_X7_isBox_17 c_this_aims c_this_front c_this_frontPlan c_this_number c_this_numbers c_this_place c_this_planScore kx_17) n v1_17 v2_17) ∧ b_X7_isBox_17 c_this_aims c_this_front c_this_frontPlan c_this_number c_this_numbers c_this_place c_this_planScore kx_17 w' v1_17 v2_17 := ⟨_, fun _ _ h => h, hw⟩
        replace ih_17 : ∀ (v1_17 : Int32) (v2_17 : Int32) (H : Heap) (locs : List Loc) (ls : Array Slot), w_17 v1_17 v2_17 → HW (dC, dI) A s.heap [(a_this, .inr (6, [.int c_this_columns, .int c_this_rows, .int c_this_aims, .ref a_this_lows, .ref a_this_highs, .ref a_this_rights, .ref a_this_terms, .ref a_this_costs, .ref a_this_froms, .ref a_this_tos, .int c_this_gone, .int c_this_plans, .ref a_this_planPoint, .ref a_this_planScore, .int c_this_front, .ref a_this_frontPlan, .ref a_this_frontTies, .int c_this_picks, .ref a_this_pick, .int c_this_hasClimbed, .ref a_this_end, .ref a_this_point, .ref a_this_score, .ref a_this_by, .ref a_this_four, .ref a_this_isNear, .ref a_this_number, .ref a_this_numbers, .ref a_this_place, .ref a_this_was])), (a_this_frontPlan, .inl (cI, 2000, .inl c_this_frontPlan)), (a_this_number, .inl (cI, 52, .inl c_this_number)), (a_this_numbers, .inl (cI, 4, .inl c_this_numbers)), (a_this_place, .inl (cI, 4, .inl c_this_place)), (a_this_planScore, .inl (cI, 8000, .inl c_this_planScore))] H locs → lv_has ls 3 [(0, .ref a_this), (1, .int v1_17), (2, .int v2_17)] → W p l e rm_X7_isBox s m args below meth c H locs 0 0 Q (F0 m 17 ls []) := fun v1_17 v2_17 H locs ls h => ih_17 v1_17 v2_17 H locs ls (hw_17 _ _ h)
        unfold b_X7_isBox_17 at hw
        refine lv_iload_n K.1 K.2.1 dX7_isBox_17 rfl (lv_at hl 2 rfl) ?_
        refine lv_aload_n K.1 K.2.1 dX7_isBox_18 rfl (lv_at hl 0 rfl) ?_
        refine g_get (v := .int c_this_aims) K hG hin_RX7 0 rfl rfl 2 (by decide) (K.2.2.2.2.1 (.fieldLink RX7 89 "AimFrontsModel" "aims" "I") (by decide +kernel)) rfl rfl dX7_isBox_19 ?_
        refine lv_icmp_ge (tgt := 66) K.1 K.2.1 dX7_isBox_22 (by decide) (fun q_22 => ?_) (fun q_22 => ?_)
        · have hw := hw.1 q_22
          exact hX_17 v1_17 H locs ls hw hG (lv_sub hl [1] rfl)
        · have hw := hw.2 q_22
          refine lv_iload_n K.1 K.2.1 dX7_isBox_25 rfl (lv_at hl 1 rfl) ?_
          refine lv_if_eq (tgt := 66) K.1 K.2.1 dX7_isBox_26 (by decide) (fun q_26 => ?_) (fun q_26 => ?_)
          · have hw := hw.1 q_26
            exact hX_17 v1_17 H locs ls hw hG (lv_sub hl [1] rfl)
          · have hw := hw.2 q_26
            refine lv_aload_n K.1 K.2.1 dX7_isBox_29 rfl (lv_at hl 0 rfl) ?_
            refine g_get (v := .ref a_this_place) K hG hin_RX7 0 rfl rfl 28 (by decide) (K.2.2.2.2.1 (.fieldLink RX7 72 "AimFrontsModel" "place" "[I") (by decide +kernel)) rfl rfl dX7_isBox_30 ?_
            refine lv_iload_n K.1 K.2.1 dX7_isBox_33 rfl (lv_at hl 2 rfl) ?_
            obtain ⟨h_34, hw⟩ := hw
            refine g_iald K hG 4 rfl h_34 dX7_isBox_34 ?_
            refine lv_aload_n K.1 K.2.1 dX7_isBox_35 rfl (lv_at hl 0 rfl) ?_
            refine g_get (v := .ref a_this_numbers) K hG hin_RX7 0 rfl rfl 27 (by decide) (K.2.2.2.2.1 (.fieldLink RX7 69 "AimFrontsModel" "numbers" "[I") (by decide +kernel)) rfl rfl dX7_isBox_36 ?_
            refine lv_iload_n K.1 K.2.1 dX7_isBox_39 rfl (lv_at hl 2 rfl) ?_
            obtain ⟨h_40, hw⟩ := hw
            refine g_iald K hG 3 rfl h_40 dX7_isBox_40 ?_
            refine lv_iconst (v := 1) K.1 K.2.1 dX7_isBox_41 (by decide) ?_
            refine lv_isub K.1 K.2.1 dX7_isBox_42 ?_
            refine lv_icmp_eq (tgt := 54) K.1 K.2.1 dX7_isBox_43 (by decide) (fun q_43 => ?_) (fun q_43 => ?_)
            · have hw := hw.1 q_43
              refine lv_iconst (v := 1) K.1 K.2.1 dX7_isBox_54 (by decide) ?_
              refine lv_goto (tgt := 59) K.1 K.2.1 dX7_isBox_55 (by decide) ?_
              refine lv_istore_n (lv' := [(1, .int (1 : Int32)), (0, .ref a_this), (2, .int v2_17)]) K.1 K.2.1 dX7_isBox_59 rfl hl (by decide) rfl (fun ls hl => ?_)
              refine lv_iinc (v := (v2_17 + (1 : Int32))) (lv' := [(2, .int (v2_17 + (1 : Int32))), (1, .int (1 : Int32)), (0, .ref a_this)]) K.1 K.2.1 dX7_isBox_60 hl (k := 2) rfl rfl (by decide) rfl (fun ls hl => ?_)
              refine lv_goto (tgt := 17) K.1 K.2.1 dX7_isBox_63 (by decide) ?_
              exact ih_17 (1 : Int32) (v2_17 + (1 : Int32)) H locs ls hw hG (lv_sub hl [2, 1, 0] rfl)
            · have hw := hw.2 q_43
              refine lv_aload_n K.1 K.2.1 dX7_isBox_46 rfl (lv_at hl 0 rfl) ?_
              refine lv_iload_n K.1 K.2.1 dX7_isBox_47 rfl (lv_at hl 2 rfl) ?_
              refine g_ri K hG [0, 1, 2, 4, 5] rfl (g_runV (As := [.int v2_17]) (rest := []) K hG hl [0, 1, 2, 4, 5] rfl rfl 0 rfl rfl (k_X7_someLess l dC dI cI cJ cZ cG H.size a_this a_this_lows a_this_highs a_this_rights a_this_terms a_this_costs a_this_froms a_this_tos a_this_planPoint a_this_planScore a_this_frontPlan a_this_frontTies a_this_pick a_this_end a_this_point a_this_score a_this_by a_this_four a_this_isNear a_this_number a_this_numbers a_this_place a_this_was c_this_aims c_this_columns c_this_front c_this_frontPlan c_this_gone c_this_hasClimbed c_this_number c_this_picks c_this_place c_this_planScore c_this_plans c_this_rows v2_17 _ hw) (cwV 1 K.2.2.2.2.1 gX7_isBox_X7_someLess rfl rfl rfl (by decide +kernel) ⟨by decide, by decide⟩) rfl rfl (Nat.le_of_ble_eq_true rfl) ⟨Nat.zero_le _, Nat.zero_le _⟩ dX7_isBox_48) (fun r_48 H locs hw hG => ?_)
              refine lv_if_eq (tgt := 58) K.1 K.2.1 dX7_isBox_51 (by decide) (fun q_51 => ?_) (fun q_51 => ?_)
              · have hw := hw.1 q_51
                refine lv_iconst (v := 0) K.1 K.2.1 dX7_isBox_58 (by decide) ?_
                refine lv_istore_n (lv' := [(1, .int (0 : Int32)), (0, .ref a_this), (2, .int v2_17)]) K.1 K.2.1 dX7_isBox_59 rfl hl (by decide) rfl (fun ls hl => ?_)
                refine lv_iinc (v := (v2_17 + (1 : Int32))) (lv' := [(2, .int (v2_17 + (1 : Int32))), (1, .int (0 : Int32)), (0, .ref a_this)]) K.1 K.2.1 dX7_isBox_60 hl (k := 2) rfl rfl (by decide) rfl (fun ls hl => ?_)
                refine lv_goto (tgt := 17) K.1 K.2.1 dX7_isBox_63 (by decide) ?_
                exact ih_17 (0 : Int32) (v2_17 + (1 : Int32)) H locs ls hw hG (lv_sub hl [2, 1, 0] rfl)
              · have hw := hw.2 q_51
                refine lv_iconst (v := 1) K.1 K.2.1 dX7_isBox_54 (by decide) ?_
                refine lv_goto (tgt := 59) K.1 K.2.1 dX7_isBox_55 (by decide) ?_
                refine lv_istore_n (lv' := [(1, .int (1 : Int32)), (0, .ref a_this), (2, .int v2_17)]) K.1 K.2.1 dX7_isBox_59 rfl hl (by decide) rfl (fun ls hl => ?_)
                refine lv_iinc (v := (v2_17 + (1 : Int32))) (lv' := [(2, .int (v2_17 + (1 : Int32))), (1, .int (1 : Int32)), (0, .ref a_this)]) K.1 K.2.1 dX7_isBox_60 hl (k := 2) rfl rfl (by decide) rfl (fun ls hl => ?_)
                refine lv_goto (tgt := 17) K.1 K.2.1 dX7_isBox_63 (by decide) ?_
                exact ih_17 (1 : Int32) (v2_17 + (1 : Int32)) H locs ls hw hG (lv_sub hl [2, 1, 0] rfl)
    exact hL_17 n_17 (0 : Int32) (0 : Int32) H locs ls hw hG (lv_sub hl [2, 1, 0] rfl)
  · have hw := hw.1 q_6
    refine lv_iconst (v := 1) K.1 K.2.1 dX7_isBox_9 (by decide) ?_
    refine lv_goto (tgt := 14) K.1 K.2.1 dX7_isBox_10 (by decide) ?_
    refine lv_istore_n (lv' := [(1, .int (1 : Int32)), (0, .ref a_this)]) K.1 K.2.1 dX7_isBox_14 rfl hl (by decide) rfl (fun ls hl => ?_)
    refine lv_iconst (v := 0) K.1 K.2.1 dX7_isBox_15 (by decide) ?_
    refine lv_istore_n (lv' := [(2, .int (0 : Int32)), (1, .int (1 : Int32)), (0, .ref a_this)]) K.1 K.2.1 dX7_isBox_16 rfl hl (by decide) rfl (fun ls hl => ?_)
    obtain ⟨kx_17x, hkx_17x, n_17x, hw⟩ := Lx1_2_abs hw
    have hX_17x : ∀ (v1_17xe : Int32) (H : Heap) (locs : List Loc) (ls : Array Slot), kx_17x v1_17xe → HW (dC, dI) A s.heap [(a_this, .inr (6, [.int c_this_columns, .int c_this_rows, .int c_this_aims, .ref a_this_lows, .ref a_this_highs, .ref a_this_rights, .ref a_this_terms, .ref a_this_costs, .ref a_this_froms, .ref a_this_tos, .int c_this_gone, .int c_this_plans, .ref a_this_planPoint, .ref a_this_planScore, .int c_this_front, .ref a_this_frontPlan, .ref a_this_frontTies, .int c_this_picks, .ref a_this_pick, .int c_this_hasClimbed, .ref a_this_end, .ref a_this_point, .ref a_this_score, .ref a_this_by, .ref a_this_four, .ref a_this_isNear, .ref a_this_number, .ref a_this_numbers, .ref a_this_place, .ref a_this_was])), (a_this_frontPlan, .inl (cI, 2000, .inl c_this_frontPlan)), (a_this_number, .inl (cI, 52, .inl c_this_number)), (a_this_numbers, .inl (cI, 4, .inl c_this_numbers)), (a_this_place, .inl (cI, 4, .inl c_this_place)), (a_this_planScore, .inl (cI, 8000, .inl c_this_planScore))] H locs → lv_has ls 3 [(1, .int v1_17xe)] → W p l e rm_X7_isBox s m args below meth c H locs 0 0 Q (F0 m 66 ls []) := by
      intro v1_17xe H locs ls hw hG hl
      have hw := hkx_17x _ hw
      refine lv_iload_n K.1 K.2.1 dX7_isBox_66 rfl (lv_at hl 0 rfl) ?_
      exact hret v1_17xe () H locs _ ls dX7_isBox_67 hw.1 hw.2 hG
    have hL_17x : ∀ (n : Nat), ∀ (v1_17x : Int32) (v2_17x : Int32) (H : Heap) (locs : List Loc) (ls : Array Slot), Lp2 (b_X7_isBox_17x c_this_aims c_this_front c_this_frontPlan c_this_number c_this_numbers c_this_place c_this_planScore kx_17x) n v1_17x v2_17x → HW (dC, dI) A s.heap [(a_this, .inr (6, [.int c_this_columns, .int c_this_rows, .int c_this_aims, .ref a_this_lows, .ref a_this_highs, .ref a_this_rights, .ref a_this_terms, .ref a_this_costs, .ref a_this_froms, .ref a_this_tos, .int c_this_gone, .int c_this_plans, .ref a_this_planPoint, .ref a_this_planScore, .int c_this_front, .ref a_this_frontPlan, .ref a_this_frontTies, .int c_this_picks, .ref a_this_pick, .int c_this_hasClimbed, .ref a_this_end, .ref a_this_point, .ref a_this_score, .ref a_this_by, .ref a_this_four, .ref a_this_isNear, .ref a_this_number, .ref a_this_numbers, .ref a_this_place, .ref a_this_was])), (a_this_frontPlan, .inl (cI, 2000, .inl c_this_frontPlan)), (a_this_number, .inl (cI, 52, .inl c_this_number)), (a_this_numbers, .inl (cI, 4, .inl c_this_numbers)), (a_this_place, .inl (cI, 4, .inl c_this_place)), (a_this_planScore, .inl (cI, 8000, .inl c_this_planScore))] H locs → lv_has ls 3 [(0, .ref a_this), (1, .int v1_17x), (2, .int v2_17x)] → W p l e rm_X7_isBox s m args below meth c H locs 0 0 Q (F0 m 17 ls []) := by
      intro n
      induction n with
      | zero => intro v1_17x v2_17x H locs ls hw; exact False.elim hw
      | succ n ih_17x =>
        intro v1_17x v2_17x H locs ls hw hG hl
        obtain ⟨w_17x, hw_17x, hw⟩ : ∃ w' : Int32 → Int32 → Prop, (∀ v1_17x v2_17x, w' v1_17x v2_17x → Lp2 (b_X7_isBox_17x c_this_aims c_this_front c_this_frontPlan c_this_number c_this_numbers c_this_place c_this_planScore kx_17x) n v1_17x v2_17x) ∧ b_X7_isBox_17x c_this_aims c_this_front c_this_frontPlan c_this_number c_this_numbers c_this_place c_this_planScore kx_17x w' v1_17x v2_17x := ⟨_, fun _ _ h => h, hw⟩
        replace ih_17x : ∀ (v1_17x : Int32) (v2_17x : Int32) (H : Heap) (locs : List Loc) (ls : Array Slot), w_17x v1_17x v2_17x → HW (dC, dI) A s.heap [(a_this, .inr (6, [.int c_this_columns, .int c_this_rows, .int c_this_aims, .ref a_this_lows, .ref a_this_highs, .ref a_this_rights, .ref a_this_terms, .ref a_this_costs, .ref a_this_froms, .ref a_this_tos, .int c_this_gone, .int c_this_plans, .ref a_this_planPoint, .ref a_this_planScore, .int c_this_front, .ref a_this_frontPlan, .ref a_this_frontTies, .int c_this_picks, .ref a_this_pick, .int c_this_hasClimbed, .ref a_this_end, .ref a_this_point, .ref a_this_score, .ref a_this_by, .ref a_this_four, .ref a_this_isNear, .ref a_this_number, .ref a_this_numbers, .ref a_this_place, .ref a_this_was])), (a_this_frontPlan, .inl (cI, 2000, .inl c_this_frontPlan)), (a_this_number, .inl (cI, 52, .inl c_this_number)), (a_this_numbers, .inl (cI, 4, .inl c_this_numbers)), (a_this_place, .inl (cI, 4, .inl c_this_place)), (a_this_planScore, .inl (cI, 8000, .inl c_this_planScore))] H locs → lv_has ls 3 [(0, .ref a_this), (1, .int v1_17x), (2, .int v2_17x)] → W p l e rm_X7_isBox s m args below meth c H locs 0 0 Q (F0 m 17 ls []) := fun v1_17x v2_17x H locs ls h => ih_17x v1_17x v2_17x H locs ls (hw_17x _ _ h)
        unfold b_X7_isBox_17x at hw
        refine lv_iload_n K.1 K.2.1 dX7_isBox_17 rfl (lv_at hl 2 rfl) ?_
        refine lv_aload_n K.1 K.2.1 dX7_isBox_18 rfl (lv_at hl 0 rfl) ?_
        refine g_get (v := .int c_this_aims) K hG hin_RX7 0 rfl rfl 2 (by decide) (K.2.2.2.2.1 (.fieldLink RX7 89 "AimFrontsModel" "aims" "I") (by decide +kernel)) rfl rfl dX7_isBox_19 ?_
        refine lv_icmp_ge (tgt := 66) K.1 K.2.1 dX7_isBox_22 (by decide) (fun q_22 => ?_) (fun q_22 => ?_)
        · have hw := hw.1 q_22
          exact hX_17x v1_17x H locs ls hw hG (lv_sub hl [1] rfl)
        · have hw := hw.2 q_22
          refine lv_iload_n K.1 K.2.1 dX7_isBox_25 rfl (lv_at hl 1 rfl) ?_
          refine lv_if_eq (tgt := 66) K.1 K.2.1 dX7_isBox_26 (by decide) (fun q_26 => ?_) (fun q_26 => ?_)
          · have hw := hw.1 q_26
            exact hX_17x v1_17x H locs ls hw hG (lv_sub hl [1] rfl)
          · have hw := hw.2 q_26
            refine lv_aload_n K.1 K.2.1 dX7_isBox_29 rfl (lv_at hl 0 rfl) ?_
            refine g_get (v := .ref a_this_place) K hG hin_RX7 0 rfl rfl 28 (by decide) (K.2.2.2.2.1 (.fieldLink RX7 72 "AimFrontsModel" "place" "[I") (by decide +kernel)) rfl rfl dX7_isBox_30 ?_
            refine lv_iload_n K.1 K.2.1 dX7_isBox_33 rfl (lv_at hl 2 rfl) ?_
            obtain ⟨h_34, hw⟩ := hw
            refine g_iald K hG 4 rfl h_34 dX7_isBox_34 ?_
            refine lv_aload_n K.1 K.2.1 dX7_isBox_35 rfl (lv_at hl 0 rfl) ?_
            refine g_get (v := .ref a_this_numbers) K hG hin_RX7 0 rfl rfl 27 (by decide) (K.2.2.2.2.1 (.fieldLink RX7 69 "AimFrontsModel" "numbers" "[I") (by decide +kernel)) rfl rfl dX7_isBox_36 ?_
            refine lv_iload_n K.1 K.2.1 dX7_isBox_39 rfl (lv_at hl 2 rfl) ?_
            obtain ⟨h_40, hw⟩ := hw
            refine g_iald K hG 3 rfl h_40 dX7_isBox_40 ?_
            refine lv_iconst (v := 1) K.1 K.2.1 dX7_isBox_41 (by decide) ?_
            refine lv_isub K.1 K.2.1 dX7_isBox_42 ?_
            refine lv_icmp_eq (tgt := 54) K.1 K.2.1 dX7_isBox_43 (by decide) (fun q_43 => ?_) (fun q_43 => ?_)
            · have hw := hw.1 q_43
              refine lv_iconst (v := 1) K.1 K.2.1 dX7_isBox_54 (by decide) ?_
              refine lv_goto (tgt := 59) K.1 K.2.1 dX7_isBox_55 (by decide) ?_
              refine lv_istore_n (lv' := [(1, .int (1 : Int32)), (0, .ref a_this), (2, .int v2_17x)]) K.1 K.2.1 dX7_isBox_59 rfl hl (by decide) rfl (fun ls hl => ?_)
              refine lv_iinc (v := (v2_17x + (1 : Int32))) (lv' := [(2, .int (v2_17x + (1 : Int32))), (1, .int (1 : Int32)), (0, .ref a_this)]) K.1 K.2.1 dX7_isBox_60 hl (k := 2) rfl rfl (by decide) rfl (fun ls hl => ?_)
              refine lv_goto (tgt := 17) K.1 K.2.1 dX7_isBox_63 (by decide) ?_
              exact ih_17x (1 : Int32) (v2_17x + (1 : Int32)) H locs ls hw hG (lv_sub hl [2, 1, 0] rfl)
            · have hw := hw.2 q_43
              refine lv_aload_n K.1 K.2.1 dX7_isBox_46 rfl (lv_at hl 0 rfl) ?_
              refine lv_iload_n K.1 K.2.1 dX7_isBox_47 rfl (lv_at hl 2 rfl) ?_
              refine g_ri K hG [0, 1, 2, 4, 5] rfl (g_runV (As := [.int v2_17x]) (rest := []) K hG hl [0, 1, 2, 4, 5] rfl rfl 0 rfl rfl (k_X7_someLess l dC dI cI cJ cZ cG H.size a_this a_this_lows a_this_highs a_this_rights a_this_terms a_this_costs a_this_froms a_this_tos a_this_planPoint a_this_planScore a_this_frontPlan a_this_frontTies a_this_pick a_this_end a_this_point a_this_score a_this_by a_this_four a_this_isNear a_this_number a_this_numbers a_this_place a_this_was c_this_aims c_this_columns c_this_front c_this_frontPlan c_this_gone c_this_hasClimbed c_this_number c_this_picks c_this_place c_this_planScore c_this_plans c_this_rows v2_17x _ hw) (cwV 1 K.2.2.2.2.1 gX7_isBox_X7_someLess rfl rfl rfl (by decide +kernel) ⟨by decide, by decide⟩) rfl rfl (Nat.le_of_ble_eq_true rfl) ⟨Nat.zero_le _, Nat.zero_le _⟩ dX7_isBox_48) (fun r_48 H locs hw hG => ?_)
              refine lv_if_eq (tgt := 58) K.1 K.2.1 dX7_isBox_51 (by decide) (fun q_51 => ?_) (fun q_51 => ?_)
              · have hw := hw.1 q_51
                refine lv_iconst (v := 0) K.1 K.2.1 dX7_isBox_58 (by decide) ?_
                refine lv_istore_n (lv' := [(1, .int (0 : Int32)), (0, .ref a_this), (2, .int v2_17x)]) K.1 K.2.1 dX7_isBox_59 rfl hl (by decide) rfl (fun ls hl => ?_)
                refine lv_iinc (v := (v2_17x + (1 : Int32))) (lv' := [(2, .int (v2_17x + (1 : Int32))), (1, .int (0 : Int32)), (0, .ref a_this)]) K.1 K.2.1 dX7_isBox_60 hl (k := 2) rfl rfl (by decide) rfl (fun ls hl => ?_)
                refine lv_goto (tgt := 17) K.1 K.2.1 dX7_isBox_63 (by decide) ?_
                exact ih_17x (0 : Int32) (v2_17x + (1 : Int32)) H locs ls hw hG (lv_sub hl [2, 1, 0] rfl)
              · have hw := hw.2 q_51
                refine lv_iconst (v := 1) K.1 K.2.1 dX7_isBox_54 (by decide) ?_
                refine lv_goto (tgt := 59) K.1 K.2.1 dX7_isBox_55 (by decide) ?_
                refine lv_istore_n (lv' := [(1, .int (1 : Int32)), (0, .ref a_this), (2, .int v2_17x)]) K.1 K.2.1 dX7_isBox_59 rfl hl (by decide) rfl (fun ls hl => ?_)
                refine lv_iinc (v := (v2_17x + (1 : Int32))) (lv' := [(2, .int (v2_17x + (1 : Int32))), (1, .int (1 : Int32)), (0, .ref a_this)]) K.1 K.2.1 dX7_isBox_60 hl (k := 2) rfl rfl (by decide) rfl (fun ls hl => ?_)
                refine lv_goto (tgt := 17) K.1 K.2.1 dX7_isBox_63 (by decide) ?_
                exact ih_17x (1 : Int32) (v2_17x + (1 : Int32)) H locs ls hw hG (lv_sub hl [2, 1, 0] rfl)
    exact hL_17x n_17x (1 : Int32) (0 : Int32) H locs ls hw hG (lv_sub hl [2, 1, 0] rfl)

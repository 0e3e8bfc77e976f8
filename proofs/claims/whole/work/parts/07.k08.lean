abbrev rm_X7_cost : Room := { frames := 2, cells := 0, slots := 0, locals := 46 }
set_option maxHeartbeats 4000000 in
set_option maxRecDepth 100000 in
theorem k_X7_cost (l : Launch) (dC : Nat → ClassId) (dI : Nat → Nat → Nat) (cI cJ cZ cG : ClassId) (sz : Nat) (a_this a_this_lows a_this_highs a_this_rights a_this_terms a_this_costs a_this_froms a_this_tos a_this_planPoint a_this_planScore a_this_frontPlan a_this_frontTies a_this_pick a_this_end a_this_point a_this_score a_this_by a_this_four a_this_isNear a_this_number a_this_numbers a_this_place a_this_was : Nat) (c_this_aims : Int32) (c_this_columns : Int32) (c_this_costs : Nat → Int32) (c_this_front : Int32) (c_this_gone : Int32) (c_this_hasClimbed : Int32) (c_this_picks : Int32) (c_this_plans : Int32) (c_this_rows : Int32) (x1 : Int32) (x2 : Int32) (x3 : Int32) (post : Int32 → (Nat → Int32) → Int32 → Int32 → Int32 → Int32 → Int32 → Prop) (hw : wp_X7_cost c_this_aims c_this_columns c_this_costs c_this_front c_this_gone c_this_hasClimbed c_this_picks c_this_plans x1 x2 x3 post) : MetI l yX7_cost wsX7_cost rm_X7_cost (dC, dI) cI cJ cZ cG [.ref a_this, .int x1, .int x2, .int x3] sz [(a_this, .inr (6, [.int c_this_columns, .int c_this_rows, .int c_this_aims, .ref a_this_lows, .ref a_this_highs, .ref a_this_rights, .ref a_this_terms, .ref a_this_costs, .ref a_this_froms, .ref a_this_tos, .int c_this_gone, .int c_this_plans, .ref a_this_planPoint, .ref a_this_planScore, .int c_this_front, .ref a_this_frontPlan, .ref a_this_frontTies, .int c_this_picks, .ref a_this_pick, .int c_this_hasClimbed, .ref a_this_end, .ref a_this_point, .ref a_this_score, .ref a_this_by, .ref a_this_four, .ref a_this_isNear, .ref a_this_number, .ref a_this_numbers, .ref a_this_place, .ref a_this_was])), (a_this_costs, .inl (cI, 32, .inl c_this_costs))] (fun (r : Int32) (u : (Nat → Int32) × Int32 × Int32 × Int32 × Int32 × Int32) => post r (u.1) (u.2.1) (u.2.2.1) (u.2.2.2.1) (u.2.2.2.2.1) (u.2.2.2.2.2)) (fun u => [(a_this, .inr (6, [.int c_this_columns, .int c_this_rows, .int c_this_aims, .ref a_this_lows, .ref a_this_highs, .ref a_this_rights, .ref a_this_terms, .ref a_this_costs, .ref a_this_froms, .ref a_this_tos, .int (u.2.2.1), .int (u.2.2.2.2.2), .ref a_this_planPoint, .ref a_this_planScore, .int (u.2.1), .ref a_this_frontPlan, .ref a_this_frontTies, .int (u.2.2.2.2.1), .ref a_this_pick, .int (u.2.2.2.1), .ref a_this_end, .ref a_this_point, .ref a_this_score, .ref a_this_by, .ref a_this_four, .ref a_this_isNear, .ref a_this_number, .ref a_this_numbers, .ref a_this_place, .ref a_this_was])), (a_this_costs, .inl (cI, 32, .inl (u.1)))]) := by
  refine met_i (ty := .int) (Or.inl rfl) (cc := cX7_cost) (maxL := 5) (by decide) rfl (Nat.le_of_ble_eq_true rfl) ?_
  intro p e s m args below meth c A Q H locs ls K hG hl hret
  have hl : lv_has ls 5 [(0, .ref a_this), (1, .int x1), (2, .int x2), (3, .int x3)] := hl
  have hin_RX7 : ∀ w ∈ u_ws RX7 TX7 30, w ∈ wsX7_cost := by decide +kernel
  unfold wp_X7_cost at hw
  refine lv_aload_n K.1 K.2.1 dX7_cost_0 rfl (lv_at hl 0 rfl) ?_
  refine lv_iload_n K.1 K.2.1 dX7_cost_1 rfl (lv_at hl 1 rfl) ?_
  refine g_ri K hG [0] rfl (g_runV (As := [.int x1]) (rest := []) K hG hl [0] rfl rfl 0 rfl rfl (k_X7_isAim l dC dI cI cJ cZ cG H.size a_this a_this_lows a_this_highs a_this_rights a_this_terms a_this_costs a_this_froms a_this_tos a_this_planPoint a_this_planScore a_this_frontPlan a_this_frontTies a_this_pick a_this_end a_this_point a_this_score a_this_by a_this_four a_this_isNear a_this_number a_this_numbers a_this_place a_this_was c_this_aims c_this_columns c_this_front c_this_gone c_this_hasClimbed c_this_picks c_this_plans c_this_rows x1 _ hw) (cwV 1 K.2.2.2.2.1 gX7_cost_X7_isAim rfl rfl rfl (by decide +kernel) ⟨by decide, by decide⟩) rfl rfl (Nat.le_of_ble_eq_true rfl) ⟨Nat.zero_le _, Nat.zero_le _⟩ dX7_cost_2) (fun r_2 H locs hw hG => ?_)
  refine lv_if_eq (tgt := 30) K.1 K.2.1 dX7_cost_5 (by decide) (fun q_5 => ?_) (fun q_5 => ?_)
  · have hw := hw.1 q_5
    refine lv_ldc (v := -1000001) K.1 K.2.1 K.2.2.2.1 (K.2.2.2.2.1 (.constant RX7 112 (-1000001)) (by decide +kernel)) dX7_cost_30 ?_
    exact hret (-1000001 : Int32) (c_this_costs, c_this_front, c_this_gone, c_this_hasClimbed, c_this_picks, c_this_plans) H locs _ ls dX7_cost_32 rfl hw hG
  · have hw := hw.2 q_5
    refine lv_aload_n K.1 K.2.1 dX7_cost_8 rfl (lv_at hl 0 rfl) ?_
    refine lv_iload_n K.1 K.2.1 dX7_cost_9 rfl (lv_at hl 2 rfl) ?_
    refine g_ri K hG [0] rfl (g_runV (As := [.int x2]) (rest := []) K hG hl [0] rfl rfl 0 rfl rfl (k_X7_isColumn l dC dI cI cJ cZ cG H.size a_this a_this_lows a_this_highs a_this_rights a_this_terms a_this_costs a_this_froms a_this_tos a_this_planPoint a_this_planScore a_this_frontPlan a_this_frontTies a_this_pick a_this_end a_this_point a_this_score a_this_by a_this_four a_this_isNear a_this_number a_this_numbers a_this_place a_this_was c_this_aims c_this_columns c_this_front c_this_gone c_this_hasClimbed c_this_picks c_this_plans c_this_rows x2 _ hw) (cwV 1 K.2.2.2.2.1 gX7_cost_X7_isColumn rfl rfl rfl (by decide +kernel) ⟨by decide, by decide⟩) rfl rfl (Nat.le_of_ble_eq_true rfl) ⟨Nat.zero_le _, Nat.zero_le _⟩ dX7_cost_10) (fun r_10 H locs hw hG => ?_)
    refine lv_if_eq (tgt := 30) K.1 K.2.1 dX7_cost_13 (by decide) (fun q_13 => ?_) (fun q_13 => ?_)
    · have hw := hw.1 q_13
      refine lv_ldc (v := -1000001) K.1 K.2.1 K.2.2.2.1 (K.2.2.2.2.1 (.constant RX7 112 (-1000001)) (by decide +kernel)) dX7_cost_30 ?_
      exact hret (-1000001 : Int32) (c_this_costs, c_this_front, c_this_gone, c_this_hasClimbed, c_this_picks, c_this_plans) H locs _ ls dX7_cost_32 rfl hw hG
    · have hw := hw.2 q_13
      refine lv_iload_n K.1 K.2.1 dX7_cost_16 rfl (lv_at hl 3 rfl) ?_
      refine lv_i2l K.1 K.2.1 dX7_cost_17 rfl ?_
      refine lv_ldc2 (v := -9) K.1 K.2.1 K.2.2.2.1 (K.2.2.2.2.1 (.constantLong RX7 132 (-9)) (by decide +kernel)) dX7_cost_18 ?_
      refine lv_ldc2 (v := 9) K.1 K.2.1 K.2.2.2.1 (K.2.2.2.2.1 (.constantLong RX7 134 (9)) (by decide +kernel)) dX7_cost_21 ?_
      refine g_ri K hG [] rfl (g_runS (As := [.long (x3.toInt64), .long (-9 : Int64), .long (9 : Int64)]) (rest := []) K hG hl [] rfl rfl (k_X7_in l dC dI cI cJ cZ cG H.size (x3.toInt64) (-9 : Int64) (9 : Int64) _ hw) (va_cwS 3 K.2.2.2.2.1 gX7_cost_X7_in rfl rfl rfl (by decide +kernel) ⟨by decide, by decide⟩) rfl rfl (Nat.le_of_ble_eq_true rfl) ⟨Nat.zero_le _, Nat.zero_le _⟩ dX7_cost_24) (fun r_24 H locs hw hG => ?_)
      refine lv_if_ne (tgt := 33) K.1 K.2.1 dX7_cost_27 (by decide) (fun q_27 => ?_) (fun q_27 => ?_)
      · have hw := hw.2 q_27
        refine lv_aload_n K.1 K.2.1 dX7_cost_33 rfl (lv_at hl 0 rfl) ?_
        refine g_get (v := .ref a_this_costs) K hG hin_RX7 0 rfl rfl 7 (by decide) (K.2.2.2.2.1 (.fieldLink RX7 22 "AimFrontsModel" "costs" "[I") (by decide +kernel)) rfl rfl dX7_cost_34 ?_
        refine lv_bipush (v := 8) K.1 K.2.1 dX7_cost_37 (by decide) ?_
        refine lv_iload_n K.1 K.2.1 dX7_cost_39 rfl (lv_at hl 1 rfl) ?_
        refine lv_imul K.1 K.2.1 dX7_cost_40 ?_
        refine lv_iload_n K.1 K.2.1 dX7_cost_41 rfl (lv_at hl 2 rfl) ?_
        refine lv_iadd K.1 K.2.1 dX7_cost_42 ?_
        obtain ⟨h_43, hw⟩ := hw
        refine g_iald K hG 1 rfl h_43 dX7_cost_43 ?_
        refine lv_istore (lv' := [(4, .int (c_this_costs ((((8 : Int32) * x1) + x2)).toNatClampNeg)), (0, .ref a_this), (1, .int x1), (2, .int x2), (3, .int x3)]) K.1 K.2.1 dX7_cost_44 hl (by decide) rfl (fun ls hl => ?_)
        refine lv_aload_n K.1 K.2.1 dX7_cost_46 rfl (lv_at hl 1 rfl) ?_
        refine g_get (v := .ref a_this_costs) K hG hin_RX7 0 rfl rfl 7 (by decide) (K.2.2.2.2.1 (.fieldLink RX7 22 "AimFrontsModel" "costs" "[I") (by decide +kernel)) rfl rfl dX7_cost_47 ?_
        refine lv_bipush (v := 8) K.1 K.2.1 dX7_cost_50 (by decide) ?_
        refine lv_iload_n K.1 K.2.1 dX7_cost_52 rfl (lv_at hl 2 rfl) ?_
        refine lv_imul K.1 K.2.1 dX7_cost_53 ?_
        refine lv_iload_n K.1 K.2.1 dX7_cost_54 rfl (lv_at hl 3 rfl) ?_
        refine lv_iadd K.1 K.2.1 dX7_cost_55 ?_
        refine lv_iload_n K.1 K.2.1 dX7_cost_56 rfl (lv_at hl 4 rfl) ?_
        obtain ⟨h_57, hw⟩ := hw
        refine g_iast (ws' := [(a_this, .inr (6, [.int c_this_columns, .int c_this_rows, .int c_this_aims, .ref a_this_lows, .ref a_this_highs, .ref a_this_rights, .ref a_this_terms, .ref a_this_costs, .ref a_this_froms, .ref a_this_tos, .int c_this_gone, .int c_this_plans, .ref a_this_planPoint, .ref a_this_planScore, .int c_this_front, .ref a_this_frontPlan, .ref a_this_frontTies, .int c_this_picks, .ref a_this_pick, .int c_this_hasClimbed, .ref a_this_end, .ref a_this_point, .ref a_this_score, .ref a_this_by, .ref a_this_four, .ref a_this_isNear, .ref a_this_number, .ref a_this_numbers, .ref a_this_place, .ref a_this_was])), (a_this_costs, .inl (cI, 32, .inl (upd c_this_costs ((((8 : Int32) * x1) + x2)).toNatClampNeg x3)))]) K hG 1 rfl h_57 rfl dX7_cost_57 (fun H locs hG => ?_)
        refine lv_aload_n K.1 K.2.1 dX7_cost_58 rfl (lv_at hl 1 rfl) ?_
        refine g_nv (w2 := (fun u => [(a_this, .inr (6, [.int c_this_columns, .int c_this_rows, .int c_this_aims, .ref a_this_lows, .ref a_this_highs, .ref a_this_rights, .ref a_this_terms, .ref a_this_costs, .ref a_this_froms, .ref a_this_tos, .int (u.2.1), .int (u.2.2.2.2), .ref a_this_planPoint, .ref a_this_planScore, .int (u.1), .ref a_this_frontPlan, .ref a_this_frontTies, .int (u.2.2.2.1), .ref a_this_pick, .int (u.2.2.1), .ref a_this_end, .ref a_this_point, .ref a_this_score, .ref a_this_by, .ref a_this_four, .ref a_this_isNear, .ref a_this_number, .ref a_this_numbers, .ref a_this_place, .ref a_this_was])), (a_this_costs, .inl (cI, 32, .inl (upd c_this_costs ((((8 : Int32) * x1) + x2)).toNatClampNeg x3)))])) K hG [0] [1] 2 rfl (g_runV (As := []) (rest := []) K hG hl [0] rfl rfl 0 rfl rfl (k_X7_anew l dC dI cI cJ cZ cG H.size a_this a_this_lows a_this_highs a_this_rights a_this_terms a_this_costs a_this_froms a_this_tos a_this_planPoint a_this_planScore a_this_frontPlan a_this_frontTies a_this_pick a_this_end a_this_point a_this_score a_this_by a_this_four a_this_isNear a_this_number a_this_numbers a_this_place a_this_was c_this_aims c_this_columns c_this_front c_this_gone c_this_hasClimbed c_this_picks c_this_plans c_this_rows _ hw) (cwV 0 K.2.2.2.2.1 gX7_cost_X7_anew rfl rfl rfl (by decide +kernel) ⟨by decide, by decide⟩) rfl rfl (Nat.le_of_ble_eq_true rfl) ⟨Nat.zero_le _, Nat.zero_le _⟩ dX7_cost_59) (fun _ => rfl) (fun _ => rfl) (fun _ => rfl) (fun _ => rfl) (by decide) (by decide) (by decide) (fun u H locs hw hG => ?_)
        obtain ⟨c_this_front_59, c_this_gone_59, c_this_hasClimbed_59, c_this_picks_59, c_this_plans_59⟩ := u
        have hG : HW (dC, dI) A s.heap [(a_this, .inr (6, [.int c_this_columns, .int c_this_rows, .int c_this_aims, .ref a_this_lows, .ref a_this_highs, .ref a_this_rights, .ref a_this_terms, .ref a_this_costs, .ref a_this_froms, .ref a_this_tos, .int c_this_gone_59, .int c_this_plans_59, .ref a_this_planPoint, .ref a_this_planScore, .int c_this_front_59, .ref a_this_frontPlan, .ref a_this_frontTies, .int c_this_picks_59, .ref a_this_pick, .int c_this_hasClimbed_59, .ref a_this_end, .ref a_this_point, .ref a_this_score, .ref a_this_by, .ref a_this_four, .ref a_this_isNear, .ref a_this_number, .ref a_this_numbers, .ref a_this_place, .ref a_this_was])), (a_this_costs, .inl (cI, 32, .inl (upd c_this_costs ((((8 : Int32) * x1) + x2)).toNatClampNeg x3)))] H locs := hG
        refine lv_iload K.1 K.2.1 dX7_cost_62 (lv_at hl 0 rfl) ?_
        exact hret (c_this_costs ((((8 : Int32) * x1) + x2)).toNatClampNeg) ((upd c_this_costs ((((8 : Int32) * x1) + x2)).toNatClampNeg x3), c_this_front_59, c_this_gone_59, c_this_hasClimbed_59, c_this_picks_59, c_this_plans_59) H locs _ ls dX7_cost_64 rfl hw hG
      · have hw := hw.1 q_27
        refine lv_ldc (v := -1000001) K.1 K.2.1 K.2.2.2.1 (K.2.2.2.2.1 (.constant RX7 112 (-1000001)) (by decide +kernel)) dX7_cost_30 ?_
        exact hret (-1000001 : Int32) (c_this_costs, c_this_front, c_this_gone, c_this_hasClimbed, c_this_picks, c_this_plans) H locs _ ls dX7_cost_32 rfl hw hG
abbrev rm_X7_part : Room := { frames := 2, cells := 0, slots := 0, locals := 46 }
set_option maxHeartbeats 4000000 in
set_option maxRecDepth 100000 in
theorem k_X7_part (l : Launch) (dC : Nat → ClassId) (dI : Nat → Nat → Nat) (cI cJ cZ cG : ClassId) (sz : Nat) (a_this a_this_lows a_this_highs a_this_rights a_this_terms a_this_costs a_this_froms a_this_tos a_this_planPoint a_this_planScore a_this_frontPlan a_this_frontTies a_this_pick a_this_end a_this_point a_this_score a_this_by a_this_four a_this_isNear a_this_number a_this_numbers a_this_place a_this_was : Nat) (c_this_aims : Int32) (c_this_columns : Int32) (c_this_froms : Nat → Int32) (c_this_front : Int32) (c_this_gone : Int32) (c_this_hasClimbed : Int32) (c_this_picks : Int32) (c_this_plans : Int32) (c_this_rows : Int32) (c_this_tos : Nat → Int32) (x1 : Int32) (x2 : Int32) (x3 : Int32) (post : Int32 → (Nat → Int32) → Int32 → Int32 → Int32 → Int32 → Int32 → (Nat → Int32) → Prop) (hw : wp_X7_part c_this_aims c_this_froms c_this_front c_this_gone c_this_hasClimbed c_this_picks c_this_plans c_this_tos x1 x2 x3 post) : MetI l yX7_part wsX7_part rm_X7_part (dC, dI) cI cJ cZ cG [.ref a_this, .int x1, .int x2, .int x3] sz [(a_this, .inr (6, [.int c_this_columns, .int c_this_rows, .int c_this_aims, .ref a_this_lows, .ref a_this_highs, .ref a_this_rights, .ref a_this_terms, .ref a_this_costs, .ref a_this_froms, .ref a_this_tos, .int c_this_gone, .int c_this_plans, .ref a_this_planPoint, .ref a_this_planScore, .int c_this_front, .ref a_this_frontPlan, .ref a_this_frontTies, .int c_this_picks, .ref a_this_pick, .int c_this_hasClimbed, .ref a_this_end, .ref a_this_point, .ref a_this_score, .ref a_this_by, .ref a_this_four, .ref a_this_isNear, .ref a_this_number, .ref a_this_numbers, .ref a_this_place, .ref a_this_was])), (a_this_froms, .inl (cI, 4, .inl c_this_froms)), (a_this_tos, .inl (cI, 4, .inl c_this_tos))] (fun (r : Int32) (u : (Nat → Int32) × Int32 × Int32 × Int32 × Int32 × Int32 × (Nat → Int32)) => post r (u.1) (u.2.1) (u.2.2.1) (u.2.2.2.1) (u.2.2.2.2.1) (u.2.2.2.2.2.1) (u.2.2.2.2.2.2)) (fun u => [(a_this, .inr (6, [.int c_this_columns, .int c_this_rows, .int c_this_aims, .ref a_this_lows, .ref a_this_highs, .ref a_this_rights, .ref a_this_terms, .ref a_this_costs, .ref a_this_froms, .ref a_this_tos, .int (u.2.2.1), .int (u.2.2.2.2.2.1), .ref a_this_planPoint, .ref a_this_planScore, .int (u.2.1), .ref a_this_frontPlan, .ref a_this_frontTies, .int (u.2.2.2.2.1), .ref a_this_pick, .int (u.2.2.2.1), .ref a_this_end, .ref a_this_point, .ref a_this_score, .ref a_this_by, .ref a_this_four, .ref a_this_isNear, .ref a_this_number, .ref a_this_numbers, .ref a_this_place, .ref a_this_was])), (a_this_froms, .inl (cI, 4, .inl (u.1))), (a_this_tos, .inl (cI, 4, .inl (u.2.2.2.2.2.2)))]) := by
  refine met_i (ty := .int) (Or.inl rfl) (cc := cX7_part) (maxL := 4) (by decide) rfl (Nat.le_of_ble_eq_true rfl) ?_
  intro p e s m args below meth c A Q H locs ls K hG hl hret
  have hl : lv_has ls 4 [(0, .ref a_this), (1, .int x1), (2, .int x2), (3, .int x3)] := hl
  have hin_RX7 : ∀ w ∈ u_ws RX7 TX7 30, w ∈ wsX7_part := by decide +kernel
  unfold wp_X7_part at hw
  refine lv_aload_n K.1 K.2.1 dX7_part_0 rfl (lv_at hl 0 rfl) ?_
  refine lv_iload_n K.1 K.2.1 dX7_part_1 rfl (lv_at hl 1 rfl) ?_
  refine g_ri K hG [0] rfl (g_runV (As := [.int x1]) (rest := []) K hG hl [0] rfl rfl 0 rfl rfl (k_X7_isAim l dC dI cI cJ cZ cG H.size a_this a_this_lows a_this_highs a_this_rights a_this_terms a_this_costs a_this_froms a_this_tos a_this_planPoint a_this_planScore a_this_frontPlan a_this_frontTies a_this_pick a_this_end a_this_point a_this_score a_this_by a_this_four a_this_isNear a_this_number a_this_numbers a_this_place a_this_was c_this_aims c_this_columns c_this_front c_this_gone c_this_hasClimbed c_this_picks c_this_plans c_this_rows x1 _ hw) (cwV 1 K.2.2.2.2.1 gX7_part_X7_isAim rfl rfl rfl (by decide +kernel) ⟨by decide, by decide⟩) rfl rfl (Nat.le_of_ble_eq_true rfl) ⟨Nat.zero_le _, Nat.zero_le _⟩ dX7_part_2) (fun r_2 H locs hw hG => ?_)
  refine lv_if_eq (tgt := 35) K.1 K.2.1 dX7_part_5 (by decide) (fun q_5 => ?_) (fun q_5 => ?_)
  · have hw := hw.1 q_5
    refine lv_ldc (v := -1000001) K.1 K.2.1 K.2.2.2.1 (K.2.2.2.2.1 (.constant RX7 112 (-1000001)) (by decide +kernel)) dX7_part_35 ?_
    exact hret (-1000001 : Int32) (c_this_froms, c_this_front, c_this_gone, c_this_hasClimbed, c_this_picks, c_this_plans, c_this_tos) H locs _ ls dX7_part_37 rfl hw hG
  · have hw := hw.2 q_5
    refine lv_iload_n K.1 K.2.1 dX7_part_8 rfl (lv_at hl 2 rfl) ?_
    refine lv_i2l K.1 K.2.1 dX7_part_9 rfl ?_
    refine lv_ldc2 (v := -2000) K.1 K.2.1 K.2.2.2.1 (K.2.2.2.2.1 (.constantLong RX7 139 (-2000)) (by decide +kernel)) dX7_part_10 ?_
    refine lv_ldc2 (v := 2000) K.1 K.2.1 K.2.2.2.1 (K.2.2.2.2.1 (.constantLong RX7 141 (2000)) (by decide +kernel)) dX7_part_13 ?_
    refine g_ri K hG [] rfl (g_runS (As := [.long (x2.toInt64), .long (-2000 : Int64), .long (2000 : Int64)]) (rest := []) K hG hl [] rfl rfl (k_X7_in l dC dI cI cJ cZ cG H.size (x2.toInt64) (-2000 : Int64) (2000 : Int64) _ hw) (va_cwS 3 K.2.2.2.2.1 gX7_part_X7_in rfl rfl rfl (by decide +kernel) ⟨by decide, by decide⟩) rfl rfl (Nat.le_of_ble_eq_true rfl) ⟨Nat.zero_le _, Nat.zero_le _⟩ dX7_part_16) (fun r_16 H locs hw hG => ?_)
    refine lv_if_eq (tgt := 35) K.1 K.2.1 dX7_part_19 (by decide) (fun q_19 => ?_) (fun q_19 => ?_)
    · have hw := hw.1 q_19
      refine lv_ldc (v := -1000001) K.1 K.2.1 K.2.2.2.1 (K.2.2.2.2.1 (.constant RX7 112 (-1000001)) (by decide +kernel)) dX7_part_35 ?_
      exact hret (-1000001 : Int32) (c_this_froms, c_this_front, c_this_gone, c_this_hasClimbed, c_this_picks, c_this_plans, c_this_tos) H locs _ ls dX7_part_37 rfl hw hG
    · have hw := hw.2 q_19
      refine lv_iload_n K.1 K.2.1 dX7_part_22 rfl (lv_at hl 3 rfl) ?_
      refine lv_i2l K.1 K.2.1 dX7_part_23 rfl ?_
      refine lv_iload_n K.1 K.2.1 dX7_part_24 rfl (lv_at hl 2 rfl) ?_
      refine lv_i2l K.1 K.2.1 dX7_part_25 rfl ?_
      refine lv_ldc2 (v := 2000) K.1 K.2.1 K.2.2.2.1 (K.2.2.2.2.1 (.constantLong RX7 141 (2000)) (by decide +kernel)) dX7_part_26 ?_
      refine g_ri K hG [] rfl (g_runS (As := [.long (x3.toInt64), .long (x2.toInt64), .long (2000 : Int64)]) (rest := []) K hG hl [] rfl rfl (k_X7_in l dC dI cI cJ cZ cG H.size (x3.toInt64) (x2.toInt64) (2000 : Int64) _ hw) (va_cwS 3 K.2.2.2.2.1 gX7_part_X7_in rfl rfl rfl (by decide +kernel) ⟨by decide, by decide⟩) rfl rfl (Nat.le_of_ble_eq_true rfl) ⟨Nat.zero_le _, Nat.zero_le _⟩ dX7_part_29) (fun r_29 H locs hw hG => ?_)
      refine lv_if_ne (tgt := 38) K.1 K.2.1 dX7_part_32 (by decide) (fun q_32 => ?_) (fun q_32 => ?_)
      · have hw := hw.2 q_32
        refine lv_aload_n K.1 K.2.1 dX7_part_38 rfl (lv_at hl 0 rfl) ?_
        refine g_get (v := .ref a_this_froms) K hG hin_RX7 0 rfl rfl 8 (by decide) (K.2.2.2.2.1 (.fieldLink RX7 25 "AimFrontsModel" "froms" "[I") (by decide +kernel)) rfl rfl dX7_part_39 ?_
        refine lv_iload_n K.1 K.2.1 dX7_part_42 rfl (lv_at hl 1 rfl) ?_
        refine lv_iload_n K.1 K.2.1 dX7_part_43 rfl (lv_at hl 2 rfl) ?_
        obtain ⟨h_44, hw⟩ := hw
        refine g_iast (ws' := [(a_this, .inr (6, [.int c_this_columns, .int c_this_rows, .int c_this_aims, .ref a_this_lows, .ref a_this_highs, .ref a_this_rights, .ref a_this_terms, .ref a_this_costs, .ref a_this_froms, .ref a_this_tos, .int c_this_gone, .int c_this_plans, .ref a_this_planPoint, .ref a_this_planScore, .int c_this_front, .ref a_this_frontPlan, .ref a_this_frontTies, .int c_this_picks, .ref a_this_pick, .int c_this_hasClimbed, .ref a_this_end, .ref a_this_point, .ref a_this_score, .ref a_this_by, .ref a_this_four, .ref a_this_isNear, .ref a_this_number, .ref a_this_numbers, .ref a_this_place, .ref a_this_was])), (a_this_froms, .inl (cI, 4, .inl (upd c_this_froms (x1).toNatClampNeg x2))), (a_this_tos, .inl (cI, 4, .inl c_this_tos))]) K hG 1 rfl h_44 rfl dX7_part_44 (fun H locs hG => ?_)
        refine lv_aload_n K.1 K.2.1 dX7_part_45 rfl (lv_at hl 0 rfl) ?_
        refine g_get (v := .ref a_this_tos) K hG hin_RX7 0 rfl rfl 9 (by decide) (K.2.2.2.2.1 (.fieldLink RX7 28 "AimFrontsModel" "tos" "[I") (by decide +kernel)) rfl rfl dX7_part_46 ?_
        refine lv_iload_n K.1 K.2.1 dX7_part_49 rfl (lv_at hl 1 rfl) ?_
        refine lv_iload_n K.1 K.2.1 dX7_part_50 rfl (lv_at hl 3 rfl) ?_
        obtain ⟨h_51, hw⟩ := hw
        refine g_iast (ws' := [(a_this, .inr (6, [.int c_this_columns, .int c_this_rows, .int c_this_aims, .ref a_this_lows, .ref a_this_highs, .ref a_this_rights, .ref a_this_terms, .ref a_this_costs, .ref a_this_froms, .ref a_this_tos, .int c_this_gone, .int c_this_plans, .ref a_this_planPoint, .ref a_this_planScore, .int c_this_front, .ref a_this_frontPlan, .ref a_this_frontTies, .int c_this_picks, .ref a_this_pick, .int c_this_hasClimbed, .ref a_this_end, .ref a_this_point, .ref a_this_score, .ref a_this_by, .ref a_this_four, .ref a_this_isNear, .ref a_this_number, .ref a_this_numbers, .ref a_this_place, .ref a_this_was])), (a_this_froms, .inl (cI, 4, .inl (upd c_this_froms (x1).toNatClampNeg x2))), (a_this_tos, .inl (cI, 4, .inl (upd c_this_tos (x1).toNatClampNeg x3)))]) K hG 2 rfl h_51 rfl dX7_part_51 (fun H locs hG => ?_)
        refine lv_aload_n K.1 K.2.1 dX7_part_52 rfl (lv_at hl 0 rfl) ?_
        refine g_nv (w2 := (fun u => [(a_this, .inr (6, [.int c_this_columns, .int c_this_rows, .int c_this_aims, .ref a_this_lows, .ref a_this_highs, .ref a_this_rights, .ref a_this_terms, .ref a_this_costs, .ref a_this_froms, .ref a_this_tos, .int (u.2.1), .int (u.2.2.2.2), .ref a_this_planPoint, .ref a_this_planScore, .int (u.1), .ref a_this_frontPlan, .ref a_this_frontTies, .int (u.2.2.2.1), .ref a_this_pick, .int (u.2.2.1), .ref a_this_end, .ref a_this_point, .ref a_this_score, .ref a_this_by, .ref a_this_four, .ref a_this_isNear, .ref a_this_number, .ref a_this_numbers, .ref a_this_place, .ref a_this_was])), (a_this_froms, .inl (cI, 4, .inl (upd c_this_froms (x1).toNatClampNeg x2))), (a_this_tos, .inl (cI, 4, .inl (upd c_this_tos (x1).toNatClampNeg x3)))])) K hG [0] [1, 2] 3 rfl (g_runV (As := []) (rest := []) K hG hl [0] rfl rfl 0 rfl rfl (k_X7_anew l dC dI cI cJ cZ cG H.size a_this a_this_lows a_this_highs a_this_rights a_this_terms a_this_costs a_this_froms a_this_tos a_this_planPoint a_this_planScore a_this_frontPlan a_this_frontTies a_this_pick a_this_end a_this_point a_this_score a_this_by a_this_four a_this_isNear a_this_number a_this_numbers a_this_place a_this_was c_this_aims c_this_columns c_this_front c_this_gone c_this_hasClimbed c_this_picks c_this_plans c_this_rows _ hw) (cwV 0 K.2.2.2.2.1 gX7_part_X7_anew rfl rfl rfl (by decide +kernel) ⟨by decide, by decide⟩) rfl rfl (Nat.le_of_ble_eq_true rfl) ⟨Nat.zero_le _, Nat.zero_le _⟩ dX7_part_53) (fun _ => rfl) (fun _ => rfl) (fun _ => rfl) (fun _ => rfl) (by decide) (by decide) (by decide) (fun u H locs hw hG => ?_)
        obtain ⟨c_this_front_53, c_this_gone_53, c_this_hasClimbed_53, c_this_picks_53, c_this_plans_53⟩ := u
        have hG : HW (dC, dI) A s.heap [(a_this, .inr (6, [.int c_this_columns, .int c_this_rows, .int c_this_aims, .ref a_this_lows, .ref a_this_highs, .ref a_this_rights, .ref a_this_terms, .ref a_this_costs, .ref a_this_froms, .ref a_this_tos, .int c_this_gone_53, .int c_this_plans_53, .ref a_this_planPoint, .ref a_this_planScore, .int c_this_front_53, .ref a_this_frontPlan, .ref a_this_frontTies, .int c_this_picks_53, .ref a_this_pick, .int c_this_hasClimbed_53, .ref a_this_end, .ref a_this_point, .ref a_this_score, .ref a_this_by, .ref a_this_four, .ref a_this_isNear, .ref a_this_number, .ref a_this_numbers, .ref a_this_place, .ref a_this_was])), (a_this_froms, .inl (cI, 4, .inl (upd c_this_froms (x1).toNatClampNeg x2))), (a_this_tos, .inl (cI, 4, .inl (upd c_this_tos (x1).toNatClampNeg x3)))] H locs := hG
        refine lv_iconst (v := 1) K.1 K.2.1 dX7_part_56 (by decide) ?_
        exact hret (1 : Int32) ((upd c_this_froms (x1).toNatClampNeg x2), c_this_front_53, c_this_gone_53, c_this_hasClimbed_53, c_this_picks_53, c_this_plans_53, (upd c_this_tos (x1).toNatClampNeg x3)) H locs _ ls dX7_part_57 rfl hw hG
      · have hw := hw.1 q_32
        refine lv_ldc (v := -1000001) K.1 K.2.1 K.2.2.2.1 (K.2.2.2.2.1 (.constant RX7 112 (-1000001)) (by decide +kernel)) dX7_part_35 ?_
        exact hret (-1000001 : Int32) (c_this_froms, c_this_front, c_this_gone, c_this_hasClimbed, c_this_picks, c_this_plans, c_this_tos) H locs _ ls dX7_part_37 rfl hw hG
abbrev rm_X7_clear : Room := { frames := 1, cells := 0, slots := 0, locals := 20 }
set_option maxHeartbeats 4000000 in
set_option maxRecDepth 100000 in
theorem k_X7_clear (l : Launch) (dC : Nat → ClassId) (dI : Nat → Nat → Nat) (cI cJ cZ cG : ClassId) (sz : Nat) (a_this a_this_lows a_this_highs a_this_rights a_this_terms a_this_costs a_this_froms a_this_tos a_this_planPoint a_this_planScore a_this_frontPlan a_this_frontTies a_this_pick a_this_end a_this_point a_this_score a_this_by a_this_four a_this_isNear a_this_number a_this_numbers a_this_place a_this_was : Nat) (c_this_aims : Int32) (c_this_columns : Int32) (c_this_front : Int32) (c_this_gone : Int32) (c_this_hasClimbed : Int32) (c_this_picks : Int32) (c_this_plans : Int32) (c_this_rows : Int32) (post : Int32 → Int32 → Int32 → Int32 → Int32 → Int32 → Int32 → Int32 → Int32 → Prop) (hw : wp_X7_clear c_this_aims c_this_columns c_this_front c_this_gone c_this_hasClimbed c_this_picks c_this_plans c_this_rows post) : MetI l yX7_clear wsX7_clear rm_X7_clear (dC, dI) cI cJ cZ cG [.ref a_this] sz [(a_this, .inr (6, [.int c_this_columns, .int c_this_rows, .int c_this_aims, .ref a_this_lows, .ref a_this_highs, .ref a_this_rights, .ref a_this_terms, .ref a_this_costs, .ref a_this_froms, .ref a_this_tos, .int c_this_gone, .int c_this_plans, .ref a_this_planPoint, .ref a_this_planScore, .int c_this_front, .ref a_this_frontPlan, .ref a_this_frontTies, .int c_this_picks, .ref a_this_pick, .int c_this_hasClimbed, .ref a_this_end, .ref a_this_point, .ref a_this_score, .ref a_this_by, .ref a_this_four, .ref a_this_isNear, .ref a_this_number, .ref a_this_numbers, .ref a_this_place, .ref a_this_was]))] (fun (r : Int32) (u : Int32 × Int32 × Int32 × Int32 × Int32 × Int32 × Int32 × Int32) => post r (u.1) (u.2.1) (u.2.2.1) (u.2.2.2.1) (u.2.2.2.2.1) (u.2.2.2.2.2.1) (u.2.2.2.2.2.2.1) (u.2.2.2.2.2.2.2)) (fun u => [(a_this, .inr (6, [.int (u.2.1), .int (u.2.2.2.2.2.2.2), .int (u.1), .ref a_this_lows, .ref a_this_highs, .ref a_this_rights, .ref a_this_terms, .ref a_this_costs, .ref a_this_froms, .ref a_this_tos, .int (u.2.2.2.1), .int (u.2.2.2.2.2.2.1), .ref a_this_planPoint, .ref a_this_planScore, .int (u.2.2.1), .ref a_this_frontPlan, .ref a_this_frontTies, .int (u.2.2.2.2.2.1), .ref a_this_pick, .int (u.2.2.2.2.1), .ref a_this_end, .ref a_this_point, .ref a_this_score, .ref a_this_by, .ref a_this_four, .ref a_this_isNear, .ref a_this_number, .ref a_this_numbers, .ref a_this_place, .ref a_this_was]))]) := by
  refine met_i (ty := .int) (Or.inl rfl) (cc := cX7_clear) (maxL := 2) (by decide) rfl (Nat.le_of_ble_eq_true rfl) ?_
  intro p e s m args below meth c A Q H locs ls K hG hl hret
  have hl : lv_has ls 2 [(0, .ref a_this)] := hl
  have hin_RX7 : ∀ w ∈ u_ws RX7 TX7 30, w ∈ wsX7_clear := by decide +kernel
  unfold wp_X7_clear at hw
  refine lv_aload_n K.1 K.2.1 dX7_clear_0 rfl (lv_at hl 0 rfl) ?_
  refine g_get (v := .int c_this_columns) K hG hin_RX7 0 rfl rfl 0 (by decide) (K.2.2.2.2.1 (.fieldLink RX7 78 "AimFrontsModel" "columns" "I") (by decide +kernel)) rfl rfl dX7_clear_1 ?_
  refine lv_istore_n (lv' := [(1, .int c_this_columns), (0, .ref a_this)]) K.1 K.2.1 dX7_clear_4 rfl hl (by decide) rfl (fun ls hl => ?_)
  refine lv_aload_n K.1 K.2.1 dX7_clear_5 rfl (lv_at hl 1 rfl) ?_
  refine lv_iconst (v := 0) K.1 K.2.1 dX7_clear_6 (by decide) ?_
  refine g_put (v := .int (0 : Int32)) (ws' := [(a_this, .inr (6, [.int (0 : Int32), .int c_this_rows, .int c_this_aims, .ref a_this_lows, .ref a_this_highs, .ref a_this_rights, .ref a_this_terms, .ref a_this_costs, .ref a_this_froms, .ref a_this_tos, .int c_this_gone, .int c_this_plans, .ref a_this_planPoint, .ref a_this_planScore, .int c_this_front, .ref a_this_frontPlan, .ref a_this_frontTies, .int c_this_picks, .ref a_this_pick, .int c_this_hasClimbed, .ref a_this_end, .ref a_this_point, .ref a_this_score, .ref a_this_by, .ref a_this_four, .ref a_this_isNear, .ref a_this_number, .ref a_this_numbers, .ref a_this_place, .ref a_this_was]))]) K hG hin_RX7 tyX7 tyX7_ok nmX7 0 rfl rfl 0 (by decide) (K.2.2.2.2.1 (.fieldLink RX7 78 "AimFrontsModel" "columns" "I") (by decide +kernel)) rfl rfl rfl rfl (Nat.le_of_ble_eq_true rfl) rfl dX7_clear_7 (fun H locs hG => ?_)
  refine lv_aload_n K.1 K.2.1 dX7_clear_10 rfl (lv_at hl 1 rfl) ?_
  refine lv_iconst (v := 0) K.1 K.2.1 dX7_clear_11 (by decide) ?_
  refine g_put (v := .int (0 : Int32)) (ws' := [(a_this, .inr (6, [.int (0 : Int32), .int (0 : Int32), .int c_this_aims, .ref a_this_lows, .ref a_this_highs, .ref a_this_rights, .ref a_this_terms, .ref a_this_costs, .ref a_this_froms, .ref a_this_tos, .int c_this_gone, .int c_this_plans, .ref a_this_planPoint, .ref a_this_planScore, .int c_this_front, .ref a_this_frontPlan, .ref a_this_frontTies, .int c_this_picks, .ref a_this_pick, .int c_this_hasClimbed, .ref a_this_end, .ref a_this_point, .ref a_this_score, .ref a_this_by, .ref a_this_four, .ref a_this_isNear, .ref a_this_number, .ref a_this_numbers, .ref a_this_place, .ref a_this_was]))]) K hG hin_RX7 tyX7 tyX7_ok nmX7 0 rfl rfl 1 (by decide) (K.2.2.2.2.1 (.fieldLink RX7 86 "AimFrontsModel" "rows" "I") (by decide +kernel)) rfl rfl rfl rfl (Nat.le_of_ble_eq_true rfl) rfl dX7_clear_12 (fun H locs hG => ?_)
  refine lv_aload_n K.1 K.2.1 dX7_clear_15 rfl (lv_at hl 1 rfl) ?_
  refine lv_iconst (v := 0) K.1 K.2.1 dX7_clear_16 (by decide) ?_
  refine g_put (v := .int (0 : Int32)) (ws' := [(a_this, .inr (6, [.int (0 : Int32), .int (0 : Int32), .int (0 : Int32), .ref a_this_lows, .ref a_this_highs, .ref a_this_rights, .ref a_this_terms, .ref a_this_costs, .ref a_this_froms, .ref a_this_tos, .int c_this_gone, .int c_this_plans, .ref a_this_planPoint, .ref a_this_planScore, .int c_this_front, .ref a_this_frontPlan, .ref a_this_frontTies, .int c_this_picks, .ref a_this_pick, .int c_this_hasClimbed, .ref a_this_end, .ref a_this_point, .ref a_this_score, .ref a_this_by, .ref a_this_four, .ref a_this_isNear, .ref a_this_number, .ref a_this_numbers, .ref a_this_place, .ref a_this_was]))]) K hG hin_RX7 tyX7 tyX7_ok nmX7 0 rfl rfl 2 (by decide) (K.2.2.2.2.1 (.fieldLink RX7 89 "AimFrontsModel" "aims" "I") (by decide +kernel)) rfl rfl rfl rfl (Nat.le_of_ble_eq_true rfl) rfl dX7_clear_17 (fun H locs hG => ?_)
  refine lv_aload_n K.1 K.2.1 dX7_clear_20 rfl (lv_at hl 1 rfl) ?_
  refine g_nv (w2 := (fun u => [(a_this, .inr (6, [.int (0 : Int32), .int (0 : Int32), .int (0 : Int32), .ref a_this_lows, .ref a_this_highs, .ref a_this_rights, .ref a_this_terms, .ref a_this_costs, .ref a_this_froms, .ref a_this_tos, .int (u.2.1), .int (u.2.2.2.2), .ref a_this_planPoint, .ref a_this_planScore, .int (u.1), .ref a_this_frontPlan, .ref a_this_frontTies, .int (u.2.2.2.1), .ref a_this_pick, .int (u.2.2.1), .ref a_this_end, .ref a_this_point, .ref a_this_score, .ref a_this_by, .ref a_this_four, .ref a_this_isNear, .ref a_this_number, .ref a_this_numbers, .ref a_this_place, .ref a_this_was]))])) K hG [0] [] 1 rfl (g_runV (As := []) (rest := []) K hG hl [0] rfl rfl 0 rfl rfl (k_X7_anew l dC dI cI cJ cZ cG H.size a_this a_this_lows a_this_highs a_this_rights a_this_terms a_this_costs a_this_froms a_this_tos a_this_planPoint a_this_planScore a_this_frontPlan a_this_frontTies a_this_pick a_this_end a_this_point a_this_score a_this_by a_this_four a_this_isNear a_this_number a_this_numbers a_this_place a_this_was (0 : Int32) (0 : Int32) c_this_front c_this_gone c_this_hasClimbed c_this_picks c_this_plans (0 : Int32) _ hw) (cwV 0 K.2.2.2.2.1 gX7_clear_X7_anew rfl rfl rfl (by decide +kernel) ⟨by decide, by decide⟩) rfl rfl (Nat.le_of_ble_eq_true rfl) ⟨Nat.zero_le _, Nat.zero_le _⟩ dX7_clear_21) (fun _ => rfl) (fun _ => rfl) (fun _ => rfl) (fun _ => rfl) (by decide) (by decide) (by decide) (fun u H locs hw hG => ?_)
  obtain ⟨c_this_front_21, c_this_gone_21, c_this_hasClimbed_21, c_this_picks_21, c_this_plans_21⟩ := u
  have hG : HW (dC, dI) A s.heap [(a_this, .inr (6, [.int (0 : Int32), .int (0 : Int32), .int (0 : Int32), .ref a_this_lows, .ref a_this_highs, .ref a_this_rights, .ref a_this_terms, .ref a_this_costs, .ref a_this_froms, .ref a_this_tos, .int c_this_gone_21, .int c_this_plans_21, .ref a_this_planPoint, .ref a_this_planScore, .int c_this_front_21, .ref a_this_frontPlan, .ref a_this_frontTies, .int c_this_picks_21, .ref a_this_pick, .int c_this_hasClimbed_21, .ref a_this_end, .ref a_this_point, .ref a_this_score, .ref a_this_by, .ref a_this_four, .ref a_this_isNear, .ref a_this_number, .ref a_this_numbers, .ref a_this_place, .ref a_this_was]))] H locs := hG
  refine lv_iload_n K.1 K.2.1 dX7_clear_24 rfl (lv_at hl 0 rfl) ?_
  exact hret c_this_columns ((0 : Int32), (0 : Int32), c_this_front_21, c_this_gone_21, c_this_hasClimbed_21, c_this_picks_21, c_this_plans_21, (0 : Int32)) H locs _ ls dX7_clear_25 rfl hw hG
abbrev rm_X7_toPoint : Room := { frames := 0, cells := 0, slots := 0, locals := 0 }
set_option maxHeartbeats 4000000 in
set_option maxRecDepth 100000 in
theorem k_X7_toPoint (l : Launch) (dC : Nat → ClassId) (dI : Nat → Nat → Nat) (cI cJ cZ cG : ClassId) (sz : Nat) (a_this a_this_lows a_this_highs a_this_rights a_this_terms a_this_costs a_this_froms a_this_tos a_this_planPoint a_this_planScore a_this_frontPlan a_this_frontTies a_this_pick a_this_end a_this_point a_this_score a_this_by a_this_four a_this_isNear a_this_number a_this_numbers a_this_place a_this_was : Nat) (c_this_aims : Int32) (c_this_columns : Int32) (c_this_front : Int32) (c_this_gone : Int32) (c_this_hasClimbed : Int32) (c_this_highs : Nat → Int32) (c_this_lows : Nat → Int32) (c_this_picks : Int32) (c_this_plans : Int32) (c_this_point : Nat → Int32) (c_this_rows : Int32) (x1 : Int32) (post : (Nat → Int32) → Prop) (hw : wp_X7_toPoint c_this_columns c_this_highs c_this_lows c_this_point x1 post) : MetV l yX7_toPoint wsX7_toPoint rm_X7_toPoint (dC, dI) cI cJ cZ cG [.ref a_this, .int x1] sz [(a_this, .inr (6, [.int c_this_columns, .int c_this_rows, .int c_this_aims, .ref a_this_lows, .ref a_this_highs, .ref a_this_rights, .ref a_this_terms, .ref a_this_costs, .ref a_this_froms, .ref a_this_tos, .int c_this_gone, .int c_this_plans, .ref a_this_planPoint, .ref a_this_planScore, .int c_this_front, .ref a_this_frontPlan, .ref a_this_frontTies, .int c_this_picks, .ref a_this_pick, .int c_this_hasClimbed, .ref a_this_end, .ref a_this_point, .ref a_this_score, .ref a_this_by, .ref a_this_four, .ref a_this_isNear, .ref a_this_number, .ref a_this_numbers, .ref a_this_place, .ref a_this_was])), (a_this_highs, .inl (cI, 8, .inl c_this_highs)), (a_this_lows, .inl (cI, 8, .inl c_this_lows)), (a_this_point, .inl (cI, 8, .inl c_this_point))] (fun (u : (Nat → Int32)) => post u) (fun u => [(a_this, .inr (6, [.int c_this_columns, .int c_this_rows, .int c_this_aims, .ref a_this_lows, .ref a_this_highs, .ref a_this_rights, .ref a_this_terms, .ref a_this_costs, .ref a_this_froms, .ref a_this_tos, .int c_this_gone, .int c_this_plans, .ref a_this_planPoint, .ref a_this_planScore, .int c_this_front, .ref a_this_frontPlan, .ref a_this_frontTies, .int c_this_picks, .ref a_this_pick, .int c_this_hasClimbed, .ref a_this_end, .ref a_this_point, .ref a_this_score, .ref a_this_by, .ref a_this_four, .ref a_this_isNear, .ref a_this_number, .ref a_this_numbers, .ref a_this_place, .ref a_this_was])), (a_this_highs, .inl (cI, 8, .inl c_this_highs)), (a_this_lows, .inl (cI, 8, .inl c_this_lows)), (a_this_point, .inl (cI, 8, .inl u))]) := by
  refine met_v (cc := cX7_toPoint) (maxL := 5) (by decide) rfl (Nat.le_of_ble_eq_true rfl) ?_
  intro p e s m args below meth c A Q H locs ls K hG hl hret
  have hl : lv_has ls 5 [(0, .ref a_this), (1, .int x1)] := hl
  have hin_RX7 : ∀ w ∈ u_ws RX7 TX7 30, w ∈ wsX7_toPoint := by decide +kernel
  unfold wp_X7_toPoint at hw
  refine lv_iload_n K.1 K.2.1 dX7_toPoint_0 rfl (lv_at hl 1 rfl) ?_
  refine lv_istore_n (lv' := [(2, .int x1), (0, .ref a_this), (1, .int x1)]) K.1 K.2.1 dX7_toPoint_1 rfl hl (by decide) rfl (fun ls hl => ?_)
  refine lv_aload_n K.1 K.2.1 dX7_toPoint_2 rfl (lv_at hl 1 rfl) ?_
  refine g_get (v := .int c_this_columns) K hG hin_RX7 0 rfl rfl 0 (by decide) (K.2.2.2.2.1 (.fieldLink RX7 78 "AimFrontsModel" "columns" "I") (by decide +kernel)) rfl rfl dX7_toPoint_3 ?_
  refine lv_iconst (v := 1) K.1 K.2.1 dX7_toPoint_6 (by decide) ?_
  refine lv_isub K.1 K.2.1 dX7_toPoint_7 ?_
  refine lv_istore_n (lv' := [(3, .int (c_this_columns - (1 : Int32))), (2, .int x1), (0, .ref a_this), (1, .int x1)]) K.1 K.2.1 dX7_toPoint_8 rfl hl (by decide) rfl (fun ls hl => ?_)
  obtain ⟨kx_9, hkx_9, n_9, hw⟩ := Lx1_3_abs hw
  have hX_9 : ∀ (c_this_point_9e : Nat → Int32) (H : Heap) (locs : List Loc) (ls : Array Slot), kx_9 c_this_point_9e → HW (dC, dI) A s.heap [(a_this, .inr (6, [.int c_this_columns, .int c_this_rows, .int c_this_aims, .ref a_this_lows, .ref a_this_highs, .ref a_this_rights, .ref a_this_terms, .ref a_this_costs, .ref a_this_froms, .ref a_this_tos, .int c_this_gone, .int c_this_plans, .ref a_this_planPoint, .ref a_this_planScore, .int c_this_front, .ref a_this_frontPlan, .ref a_this_frontTies, .int c_this_picks, .ref a_this_pick, .int c_this_hasClimbed, .ref a_this_end, .ref a_this_point, .ref a_this_score, .ref a_this_by, .ref a_this_four, .ref a_this_isNear, .ref a_this_number, .ref a_this_numbers, .ref a_this_place, .ref a_this_was])), (a_this_highs, .inl (cI, 8, .inl c_this_highs)), (a_this_lows, .inl (cI, 8, .inl c_this_lows)), (a_this_point, .inl (cI, 8, .inl c_this_point_9e))] H locs → lv_has ls 5 [] → W p l e rm_X7_toPoint s m args below meth c H locs 0 0 Q (F0 m 58 ls []) := by
    intro c_this_point_9e H locs ls hw hG hl
    have hw := hkx_9 _ hw
    exact hret c_this_point_9e H locs _ ls dX7_toPoint_58 hw hG
  have hL_9 : ∀ (n : Nat), ∀ (v2_9 : Int32) (v3_9 : Int32) (c_this_point_9 : Nat → Int32) (H : Heap) (locs : List Loc) (ls : Array Slot), Lp3 (b_X7_toPoint_9 c_this_highs c_this_lows kx_9) n v2_9 v3_9 c_this_point_9 → HW (dC, dI) A s.heap [(a_this, .inr (6, [.int c_this_columns, .int c_this_rows, .int c_this_aims, .ref a_this_lows, .ref a_this_highs, .ref a_this_rights, .ref a_this_terms, .ref a_this_costs, .ref a_this_froms, .ref a_this_tos, .int c_this_gone, .int c_this_plans, .ref a_this_planPoint, .ref a_this_planScore, .int c_this_front, .ref a_this_frontPlan, .ref a_this_frontTies, .int c_this_picks, .ref a_this_pick, .int c_this_hasClimbed, .ref a_this_end, .ref a_this_point, .ref a_this_score, .ref a_this_by, .ref a_this_four, .ref a_this_isNear, .ref a_this_number, .ref a_this_numbers, .ref a_this_place, .ref a_this_was])), (a_this_highs, .inl (cI, 8, .inl c_this_highs)), (a_this_lows, .inl (cI, 8, .inl c_this_lows)), (a_this_point, .inl (cI, 8, .inl c_this_point_9))] H locs → lv_has ls 5 [(0, .ref a_this), (2, .int v2_9), (3, .int v3_9)] → W p l e rm_X7_toPoint s m args below meth c H locs 0 0 Q (F0 m 9 ls []) := by
    intro n
    induction n with
    | zero => intro v2_9 v3_9 c_this_point_9 H locs ls hw; exact False.elim hw
    | succ n ih_9 =>
      intro v2_9 v3_9 c_this_point_9 H locs ls hw hG hl
      obtain ⟨w_9, hw_9, hw⟩ : ∃ w' : Int32 → Int32 → (Nat → Int32) → Prop, (∀ v2_9 v3_9 c_this_point_9, w' v2_9 v3_9 c_this_point_9 → Lp3 (b_X7_toPoint_9 c_this_highs c_this_lows kx_9) n v2_9 v3_9 c_this_point_9) ∧ b_X7_toPoint_9 c_this_highs c_this_lows kx_9 w' v2_9 v3_9 c_this_point_9 := ⟨_, fun _ _ _ h => h, hw⟩
      replace ih_9 : ∀ (v2_9 : Int32) (v3_9 : Int32) (c_this_point_9 : Nat → Int32) (H : Heap) (locs : List Loc) (ls : Array Slot), w_9 v2_9 v3_9 c_this_point_9 → HW (dC, dI) A s.heap [(a_this, .inr (6, [.int c_this_columns, .int c_this_rows, .int c_this_aims, .ref a_this_lows, .ref a_this_highs, .ref a_this_rights, .ref a_this_terms, .ref a_this_costs, .ref a_this_froms, .ref a_this_tos, .int c_this_gone, .int c_this_plans, .ref a_this_planPoint, .ref a_this_planScore, .int c_this_front, .ref a_this_frontPlan, .ref a_this_frontTies, .int c_this_picks, .ref a_this_pick, .int c_this_hasClimbed, .ref a_this_end, .ref a_this_point, .ref a_this_score, .ref a_this_by, .ref a_this_four, .ref a_this_isNear, .ref a_this_number, .ref a_this_numbers, .ref a_this_place, .ref a_this_was])), (a_this_highs, .inl (cI, 8, .inl c_this_highs)), (a_this_lows, .inl (cI, 8, .inl c_this_lows)), (a_this_point, .inl (cI, 8, .inl c_this_point_9))] H locs → lv_has ls 5 [(0, .ref a_this), (2, .int v2_9), (3, .int v3_9)] → W p l e rm_X7_toPoint s m args below meth c H locs 0 0 Q (F0 m 9 ls []) := fun v2_9 v3_9 c_this_point_9 H locs ls h => ih_9 v2_9 v3_9 c_this_point_9 H locs ls (hw_9 _ _ _ h)
      unfold b_X7_toPoint_9 at hw
      refine lv_iload_n K.1 K.2.1 dX7_toPoint_9 rfl (lv_at hl 2 rfl) ?_
      refine lv_if_lt (tgt := 58) K.1 K.2.1 dX7_toPoint_10 (by decide) (fun q_10 => ?_) (fun q_10 => ?_)
      · have hw := hw.1 q_10
        exact hX_9 c_this_point_9 H locs ls hw hG (lv_sub hl [] rfl)
      · have hw := hw.2 q_10
        refine lv_aload_n K.1 K.2.1 dX7_toPoint_13 rfl (lv_at hl 0 rfl) ?_
        refine g_get (v := .ref a_this_highs) K hG hin_RX7 0 rfl rfl 4 (by decide) (K.2.2.2.2.1 (.fieldLink RX7 13 "AimFrontsModel" "highs" "[I") (by decide +kernel)) rfl rfl dX7_toPoint_14 ?_
        refine lv_iload_n K.1 K.2.1 dX7_toPoint_17 rfl (lv_at hl 2 rfl) ?_
        obtain ⟨h_18, hw⟩ := hw
        refine g_iald K hG 1 rfl h_18 dX7_toPoint_18 ?_
        refine lv_aload_n K.1 K.2.1 dX7_toPoint_19 rfl (lv_at hl 0 rfl) ?_
        refine g_get (v := .ref a_this_lows) K hG hin_RX7 0 rfl rfl 3 (by decide) (K.2.2.2.2.1 (.fieldLink RX7 7 "AimFrontsModel" "lows" "[I") (by decide +kernel)) rfl rfl dX7_toPoint_20 ?_
        refine lv_iload_n K.1 K.2.1 dX7_toPoint_23 rfl (lv_at hl 2 rfl) ?_
        obtain ⟨h_24, hw⟩ := hw
        refine g_iald K hG 2 rfl h_24 dX7_toPoint_24 ?_
        refine lv_isub K.1 K.2.1 dX7_toPoint_25 ?_
        refine lv_iconst (v := 1) K.1 K.2.1 dX7_toPoint_26 (by decide) ?_
        refine lv_iadd K.1 K.2.1 dX7_toPoint_27 ?_
        refine lv_istore (lv' := [(4, .int (((c_this_highs (v3_9).toNatClampNeg) - (c_this_lows (v3_9).toNatClampNeg)) + (1 : Int32))), (0, .ref a_this), (2, .int v2_9), (3, .int v3_9)]) K.1 K.2.1 dX7_toPoint_28 hl (by decide) rfl (fun ls hl => ?_)
        refine lv_aload_n K.1 K.2.1 dX7_toPoint_30 rfl (lv_at hl 1 rfl) ?_
        refine g_get (v := .ref a_this_point) K hG hin_RX7 0 rfl rfl 21 (by decide) (K.2.2.2.2.1 (.fieldLink RX7 49 "AimFrontsModel" "point" "[I") (by decide +kernel)) rfl rfl dX7_toPoint_31 ?_
        refine lv_iload_n K.1 K.2.1 dX7_toPoint_34 rfl (lv_at hl 3 rfl) ?_
        refine lv_aload_n K.1 K.2.1 dX7_toPoint_35 rfl (lv_at hl 1 rfl) ?_
        refine g_get (v := .ref a_this_lows) K hG hin_RX7 0 rfl rfl 3 (by decide) (K.2.2.2.2.1 (.fieldLink RX7 7 "AimFrontsModel" "lows" "[I") (by decide +kernel)) rfl rfl dX7_toPoint_36 ?_
        refine lv_iload_n K.1 K.2.1 dX7_toPoint_39 rfl (lv_at hl 3 rfl) ?_
        obtain ⟨h_40, hw⟩ := hw
        refine g_iald K hG 2 rfl h_40 dX7_toPoint_40 ?_
        refine lv_iload_n K.1 K.2.1 dX7_toPoint_41 rfl (lv_at hl 2 rfl) ?_
        refine lv_iload K.1 K.2.1 dX7_toPoint_42 (lv_at hl 0 rfl) ?_
        obtain ⟨h_44, hw⟩ := hw
        refine lv_irem K.1 K.2.1 dX7_toPoint_44 h_44 ?_
        refine lv_iadd K.1 K.2.1 dX7_toPoint_45 ?_
        obtain ⟨h_46, hw⟩ := hw
        refine g_iast (ws' := [(a_this, .inr (6, [.int c_this_columns, .int c_this_rows, .int c_this_aims, .ref a_this_lows, .ref a_this_highs, .ref a_this_rights, .ref a_this_terms, .ref a_this_costs, .ref a_this_froms, .ref a_this_tos, .int c_this_gone, .int c_this_plans, .ref a_this_planPoint, .ref a_this_planScore, .int c_this_front, .ref a_this_frontPlan, .ref a_this_frontTies, .int c_this_picks, .ref a_this_pick, .int c_this_hasClimbed, .ref a_this_end, .ref a_this_point, .ref a_this_score, .ref a_this_by, .ref a_this_four, .ref a_this_isNear, .ref a_this_number, .ref a_this_numbers, .ref a_this_place, .ref a_this_was])), (a_this_highs, .inl (cI, 8, .inl c_this_highs)), (a_this_lows, .inl (cI, 8, .inl c_this_lows)), (a_this_point, .inl (cI, 8, .inl (upd c_this_point_9 (v3_9).toNatClampNeg ((c_this_lows (v3_9).toNatClampNeg) + (v2_9 - v2_9 / (((c_this_highs (v3_9).toNatClampNeg) - (c_this_lows (v3_9).toNatClampNeg)) + (1 : Int32)) * (((c_this_highs (v3_9).toNatClampNeg) - (c_this_lows (v3_9).toNatClampNeg)) + (1 : Int32)))))))]) K hG 3 rfl h_46 rfl dX7_toPoint_46 (fun H locs hG => ?_)
        refine lv_iload_n K.1 K.2.1 dX7_toPoint_47 rfl (lv_at hl 2 rfl) ?_
        refine lv_iload K.1 K.2.1 dX7_toPoint_48 (lv_at hl 0 rfl) ?_
        obtain ⟨h_50, hw⟩ := hw
        refine lv_idiv K.1 K.2.1 dX7_toPoint_50 h_50 ?_
        refine lv_istore_n (lv' := [(2, .int (v2_9 / (((c_this_highs (v3_9).toNatClampNeg) - (c_this_lows (v3_9).toNatClampNeg)) + (1 : Int32)))), (4, .int (((c_this_highs (v3_9).toNatClampNeg) - (c_this_lows (v3_9).toNatClampNeg)) + (1 : Int32))), (0, .ref a_this), (3, .int v3_9)]) K.1 K.2.1 dX7_toPoint_51 rfl hl (by decide) rfl (fun ls hl => ?_)
        refine lv_iinc (v := (v3_9 + (-1 : Int32))) (lv' := [(3, .int (v3_9 + (-1 : Int32))), (2, .int (v2_9 / (((c_this_highs (v3_9).toNatClampNeg) - (c_this_lows (v3_9).toNatClampNeg)) + (1 : Int32)))), (4, .int (((c_this_highs (v3_9).toNatClampNeg) - (c_this_lows (v3_9).toNatClampNeg)) + (1 : Int32))), (0, .ref a_this)]) K.1 K.2.1 dX7_toPoint_52 hl (k := 3) rfl rfl (by decide) rfl (fun ls hl => ?_)
        refine lv_goto (tgt := 9) K.1 K.2.1 dX7_toPoint_55 (by decide) ?_
        exact ih_9 (v2_9 / (((c_this_highs (v3_9).toNatClampNeg) - (c_this_lows (v3_9).toNatClampNeg)) + (1 : Int32))) (v3_9 + (-1 : Int32)) (upd c_this_point_9 (v3_9).toNatClampNeg ((c_this_lows (v3_9).toNatClampNeg) + (v2_9 - v2_9 / (((c_this_highs (v3_9).toNatClampNeg) - (c_this_lows (v3_9).toNatClampNeg)) + (1 : Int32)) * (((c_this_highs (v3_9).toNatClampNeg) - (c_this_lows (v3_9).toNatClampNeg)) + (1 : Int32))))) H locs ls hw hG (lv_sub hl [3, 1, 0] rfl)
  exact hL_9 n_9 x1 (c_this_columns - (1 : Int32)) c_this_point H locs ls hw hG (lv_sub hl [2, 1, 0] rfl)
abbrev rm_X7_isPlan : Room := { frames := 1, cells := 0, slots := 0, locals := 25 }
set_option maxHeartbeats 4000000 in
set_option maxRecDepth 100000 in
theorem k_X7_isPlan (l : Launch) (dC : Nat → ClassId) (dI : Nat → Nat → Nat) (cI cJ cZ cG : ClassId) (sz : Nat) (a_this a_this_lows a_this_highs a_this_rights a_this_terms a_this_costs a_this_froms a_this_tos a_this_planPoint a_this_planScore a_this_frontPlan a_this_frontTies a_this_pick a_this_end a_this_point a_this_score a_this_by a_this_four a_this_isNear a_this_number a_this_numbers a_this_place a_this_was : Nat) (c_this_aims : Int32) (c_this_columns : Int32) (c_this_costs : Nat → Int32) (c_this_froms : Nat → Int32) (c_this_front : Int32) (c_this_gone : Int32) (c_this_hasClimbed : Int32) (c_this_highs : Nat → Int32) (c_this_lows : Nat → Int32) (c_this_picks : Int32) (c_this_plans : Int32) (c_this_point : Nat → Int32) (c_this_rights : Nat → Int32) (c_this_rows : Int32) (c_this_score : Nat → Int32) (c_this_terms : Nat → Int32) (c_this_tos : Nat → Int32) (post : Int32 → (Nat → Int32) → Prop) (hw : wp_X7_isPlan c_this_aims c_this_columns c_this_costs c_this_froms c_this_highs c_this_lows c_this_point c_this_rights c_this_rows c_this_score c_this_terms c_this_tos post) : MetI l yX7_isPlan wsX7_isPlan rm_X7_isPlan (dC, dI) cI cJ cZ cG [.ref a_this] sz [(a_this, .inr (6, [.int c_this_columns, .int c_this_rows, .int c_this_aims, .ref a_this_lows, .ref a_this_highs, .ref a_this_rights, .ref a_this_terms, .ref a_this_costs, .ref a_this_froms, .ref a_this_tos, .int c_this_gone, .int c_this_plans, .ref a_this_planPoint, .ref a_this_planScore, .int c_this_front, .ref a_this_frontPlan, .ref a_this_frontTies, .int c_this_picks, .ref a_this_pick, .int c_this_hasClimbed, .ref a_this_end, .ref a_this_point, .ref a_this_score, .ref a_this_by, .ref a_this_four, .ref a_this_isNear, .ref a_this_number, .ref a_this_numbers, .ref a_this_place, .ref a_this_was])), (a_this_costs, .inl (cI, 32, .inl c_this_costs)), (a_this_froms, .inl (cI, 4, .inl c_this_froms)), (a_this_highs, .inl (cI, 8, .inl c_this_highs)), (a_this_lows, .inl (cI, 8, .inl c_this_lows)), (a_this_point, .inl (cI, 8, .inl c_this_point)), (a_this_rights, .inl (cI, 8, .inl c_this_rights)), (a_this_score, .inl (cI, 4, .inl c_this_score)), (a_this_terms, .inl (cI, 64, .inl c_this_terms)), (a_this_tos, .inl (cI, 4, .inl c_this_tos))] (fun (r : Int32) (u : (Nat → Int32)) => post r u) (fun u => [(a_this, .inr (6, [.int c_this_columns, .int c_this_rows, .int c_this_aims, .ref a_this_lows, .ref a_this_highs, .ref a_this_rights, .ref a_this_terms, .ref a_this_costs, .ref a_this_froms, .ref a_this_tos, .int c_this_gone, .int c_this_plans, .ref a_this_planPoint, .ref a_this_planScore, .int c_this_front, .ref a_this_frontPlan, .ref a_this_frontTies, .int c_this_picks, .ref a_this_pick, .int c_this_hasClimbed, .ref a_this_end, .ref a_this_point, .ref a_this_score, .ref a_this_by, .ref a_this_four, .ref a_this_isNear, .ref a_this_number, .ref a_this_numbers, .ref a_this_place, .ref a_this_was])), (a_this_costs, .inl (cI, 32, .inl c_this_costs)), (a_this_froms, .inl (cI, 4, .inl c_this_froms)), (a_this_highs, .inl (cI, 8, .inl c_this_highs)), (a_this_lows, .inl (cI, 8, .inl c_this_lows)), (a_this_point, .inl (cI, 8, .inl c_this_point)), (a_this_rights, .inl (cI, 8, .inl c_this_rights)), (a_this_score, .inl (cI, 4, .inl u)), (a_this_terms, .inl (cI, 64, .inl c_this_terms)), (a_this_tos, .inl (cI, 4, .inl c_this_tos))]) := by
  refine met_i (ty := .boolean) (Or.inr rfl) (cc := cX7_isPlan) (maxL := 5) (by decide) rfl (Nat.le_of_ble_eq_true rfl) ?_
  intro p e s m args below meth c A Q H locs ls K hG hl hret
  have hl : lv_has ls 5 [(0, .ref a_this)] := hl
  have hin_RX7 : ∀ w ∈ u_ws RX7 TX7 30, w ∈ wsX7_isPlan := by decide +kernel
  unfold wp_X7_isPlan at hw
  refine lv_iconst (v := 1) K.1 K.2.1 dX7_isPlan_0 (by decide) ?_
  refine lv_istore_n (lv' := [(1, .int (1 : Int32)), (0, .ref a_this)]) K.1 K.2.1 dX7_isPlan_1 rfl hl (by decide) rfl (fun ls hl => ?_)
  refine lv_iconst (v := 0) K.1 K.2.1 dX7_isPlan_2 (by decide) ?_
  refine lv_istore_n (lv' := [(2, .int (0 : Int32)), (1, .int (1 : Int32)), (0, .ref a_this)]) K.1 K.2.1 dX7_isPlan_3 rfl hl (by decide) rfl (fun ls hl => ?_)
  obtain ⟨kx_4, hkx_4, n_4, hw⟩ := Lx1_2_abs hw
  have hX_4 : ∀ (v1_4e : Int32) (H : Heap) (locs : List Loc) (ls : Array Slot), kx_4 v1_4e → HW (dC, dI) A s.heap [(a_this, .inr (6, [.int c_this_columns, .int c_this_rows, .int c_this_aims, .ref a_this_lows, .ref a_this_highs, .ref a_this_rights, .ref a_this_terms, .ref a_this_costs, .ref a_this_froms, .ref a_this_tos, .int c_this_gone, .int c_this_plans, .ref a_this_planPoint, .ref a_this_planScore, .int c_this_front, .ref a_this_frontPlan, .ref a_this_frontTies, .int c_this_picks, .ref a_this_pick, .int c_this_hasClimbed, .ref a_this_end, .ref a_this_point, .ref a_this_score, .ref a_this_by, .ref a_this_four, .ref a_this_isNear, .ref a_this_number, .ref a_this_numbers, .ref a_this_place, .ref a_this_was])), (a_this_costs, .inl (cI, 32, .inl c_this_costs)), (a_this_froms, .inl (cI, 4, .inl c_this_froms)), (a_this_highs, .inl (cI, 8, .inl c_this_highs)), (a_this_lows, .inl (cI, 8, .inl c_this_lows)), (a_this_point, .inl (cI, 8, .inl c_this_point)), (a_this_rights, .inl (cI, 8, .inl c_this_rights)), (a_this_score, .inl (cI, 4, .inl c_this_score)), (a_this_terms, .inl (cI, 64, .inl c_this_terms)), (a_this_tos, .inl (cI, 4, .inl c_this_tos))] H locs → lv_has ls 5 [(0, .ref a_this), (1, .int v1_4e)] → W p l e rm_X7_isPlan s m args below meth c H locs 0 0 Q (F0 m 55 ls []) := by
    intro v1_4e H locs ls hw hG hl
    have hw := hkx_4 _ hw
    refine lv_iconst (v := 0) K.1 K.2.1 dX7_isPlan_55 (by decide) ?_
    refine lv_istore_n (lv' := [(2, .int (0 : Int32)), (0, .ref a_this), (1, .int v1_4e)]) K.1 K.2.1 dX7_isPlan_56 rfl hl (by decide) rfl (fun ls hl => ?_)
    obtain ⟨kx_57, hkx_57, n_57, hw⟩ := Lx1_2_abs hw
    have hX_57 : ∀ (v1_57e : Int32) (H : Heap) (locs : List Loc) (ls : Array Slot), kx_57 v1_57e → HW (dC, dI) A s.heap [(a_this, .inr (6, [.int c_this_columns, .int c_this_rows, .int c_this_aims, .ref a_this_lows, .ref a_this_highs, .ref a_this_rights, .ref a_this_terms, .ref a_this_costs, .ref a_this_froms, .ref a_this_tos, .int c_this_gone, .int c_this_plans, .ref a_this_planPoint, .ref a_this_planScore, .int c_this_front, .ref a_this_frontPlan, .ref a_this_frontTies, .int c_this_picks, .ref a_this_pick, .int c_this_hasClimbed, .ref a_this_end, .ref a_this_point, .ref a_this_score, .ref a_this_by, .ref a_this_four, .ref a_this_isNear, .ref a_this_number, .ref a_this_numbers, .ref a_this_place, .ref a_this_was])), (a_this_costs, .inl (cI, 32, .inl c_this_costs)), (a_this_froms, .inl (cI, 4, .inl c_this_froms)), (a_this_highs, .inl (cI, 8, .inl c_this_highs)), (a_this_lows, .inl (cI, 8, .inl c_this_lows)), (a_this_point, .inl (cI, 8, .inl c_this_point)), (a_this_rights, .inl (cI, 8, .inl c_this_rights)), (a_this_score, .inl (cI, 4, .inl c_this_score)), (a_this_terms, .inl (cI, 64, .inl c_this_terms)), (a_this_tos, .inl (cI, 4, .inl c_this_tos))] H locs → lv_has ls 5 [(0, .ref a_this), (1, .int v1_57e)] → W p l e rm_X7_isPlan s m args below meth c H locs 0 0 Q (F0 m 134 ls []) := by
      intro v1_57e H locs ls hw hG hl
      have hw := hkx_57 _ hw
      refine lv_iconst (v := 0) K.1 K.2.1 dX7_isPlan_134 (by decide) ?_
      refine lv_istore_n (lv' := [(2, .int (0 : Int32)), (0, .ref a_this), (1, .int v1_57e)]) K.1 K.2.1 dX7_isPlan_135 rfl hl (by decide) rfl (fun ls hl => ?_)
      obtain ⟨kx_136, hkx_136, n_136, hw⟩ := Lx2_3_abs hw
      have hX_136 : ∀ (v1_136e : Int32) (c_this_score_136e : Nat → Int32) (H : Heap) (locs : List Loc) (ls : Array Slot), kx_136 v1_136e c_this_score_136e → HW (dC, dI) A s.heap [(a_this, .inr (6, [.int c_this_columns, .int c_this_rows, .int c_this_aims, .ref a_this_lows, .ref a_this_highs, .ref a_this_rights, .ref a_this_terms, .ref a_this_costs, .ref a_this_froms, .ref a_this_tos, .int c_this_gone, .int c_this_plans, .ref a_this_planPoint, .ref a_this_planScore, .int c_this_front, .ref a_this_frontPlan, .ref a_this_frontTies, .int c_this_picks, .ref a_this_pick, .int c_this_hasClimbed, .ref a_this_end, .ref a_this_point, .ref a_this_score, .ref a_this_by, .ref a_this_four, .ref a_this_isNear, .ref a_this_number, .ref a_this_numbers, .ref a_this_place, .ref a_this_was])), (a_this_costs, .inl (cI, 32, .inl c_this_costs)), (a_this_froms, .inl (cI, 4, .inl c_this_froms)), (a_this_highs, .inl (cI, 8, .inl c_this_highs)), (a_this_lows, .inl (cI, 8, .inl c_this_lows)), (a_this_point, .inl (cI, 8, .inl c_this_point)), (a_this_rights, .inl (cI, 8, .inl c_this_rights)), (a_this_score, .inl (cI, 4, .inl c_this_score_136e)), (a_this_terms, .inl (cI, 64, .inl c_this_terms)), (a_this_tos, .inl (cI, 4, .inl c_this_tos))] H locs → lv_has ls 5 [(1, .int v1_136e)] → W p l e rm_X7_isPlan s m args below meth c H locs 0 0 Q (F0 m 237 ls []) := by
        intro v1_136e c_this_score_136e H locs ls hw hG hl
        have hw := hkx_136 _ _ hw
        refine lv_iload_n K.1 K.2.1 dX7_isPlan_237 rfl (lv_at hl 0 rfl) ?_
        exact hret v1_136e c_this_score_136e H locs _ ls dX7_isPlan_238 hw.1 hw.2 hG
      have hL_136 : ∀ (n : Nat), ∀ (v1_136 : Int32) (v2_136 : Int32) (c_this_score_136 : Nat → Int32) (H : Heap) (locs : List Loc) (ls : Array Slot), Lp3 (b_X7_isPlan_136 c_this_columns c_this_aims c_this_costs c_this_froms c_this_point c_this_tos kx_136) n v1_136 v2_136 c_this_score_136 → HW (dC, dI) A s.heap [(a_this, .inr (6, [.int c_this_columns, .int c_this_rows, .int c_this_aims, .ref a_this_lows, .ref a_this_highs, .ref a_this_rights, .ref a_this_terms, .ref a_this_costs, .ref a_this_froms, .ref a_this_tos, .int c_this_gone, .int c_this_plans, .ref a_this_planPoint, .ref a_this_planScore, .int c_this_front, .ref a_this_frontPlan, .ref a_this_frontTies, .int c_this_picks, .ref a_this_pick, .int c_this_hasClimbed, .ref a_this_end, .ref a_this_point, .ref a_this_score, .ref a_this_by, .ref a_this_four, .ref a_this_isNear, .ref a_this_number, .ref a_this_numbers, .ref a_this_place, .ref a_this_was])), (a_this_costs, .inl (cI, 32, .inl c_this_costs)), (a_this_froms, .inl (cI, 4, .inl c_this_froms)), (a_this_highs, .inl (cI, 8, .inl c_this_highs)), (a_this_lows, .inl (cI, 8, .inl c_this_lows)), (a_this_point, .inl (cI, 8, .inl c_this_point)), (a_this_rights, .inl (cI, 8, .inl c_this_rights)), (a_this_score, .inl (cI, 4, .inl c_this_score_136)), (a_this_terms, .inl (cI, 64, .inl c_this_terms)), (a_this_tos, .inl (cI, 4, .inl c_this_tos))] H locs → lv_has ls 5 [(0, .ref a_this), (1, .int v1_136), (2, .int v2_136)] → W p l e rm_X7_isPlan s m args below meth c H locs 0 0 Q (F0 m 136 ls []) := by
        intro n
        induction n with
        | zero => intro v1_136 v2_136 c_this_score_136 H locs ls hw; exact False.elim hw
        | succ n ih_136 =>
          intro v1_136 v2_136 c_this_score_136 H locs ls hw hG hl
          obtain ⟨w_136, hw_136, hw⟩ : ∃ w' : Int32 → Int32 → (Nat → Int32) → Prop, (∀ v1_136 v2_136 c_this_score_136, w' v1_136 v2_136 c_this_score_136 → Lp3 (b_X7_isPlan_136 c_this_columns c_this_aims c_this_costs c_this_froms c_this_point c_this_tos kx_136) n v1_136 v2_136 c_this_score_136) ∧ b_X7_isPlan_136 c_this_columns c_this_aims c_this_costs c_this_froms c_this_point c_this_tos kx_136 w' v1_136 v2_136 c_this_score_136 := ⟨_, fun _ _ _ h => h, hw⟩
          replace ih_136 : ∀ (v1_136 : Int32) (v2_136 : Int32) (c_this_score_136 : Nat → Int32) (H : Heap) (locs : List Loc) (ls : Array Slot), w_136 v1_136 v2_136 c_this_score_136 → HW (dC, dI) A s.heap [(a_this, .inr (6, [.int c_this_columns, .int c_this_rows, .int c_this_aims, .ref a_this_lows, .ref a_this_highs, .ref a_this_rights, .ref a_this_terms, .ref a_this_costs, .ref a_this_froms, .ref a_this_tos, .int c_this_gone, .int c_this_plans, .ref a_this_planPoint, .ref a_this_planScore, .int c_this_front, .ref a_this_frontPlan, .ref a_this_frontTies, .int c_this_picks, .ref a_this_pick, .int c_this_hasClimbed, .ref a_this_end, .ref a_this_point, .ref a_this_score, .ref a_this_by, .ref a_this_four, .ref a_this_isNear, .ref a_this_number, .ref a_this_numbers, .ref a_this_place, .ref a_this_was])), (a_this_costs, .inl (cI, 32, .inl c_this_costs)), (a_this_froms, .inl (cI, 4, .inl c_this_froms)), (a_this_highs, .inl (cI, 8, .inl c_this_highs)), (a_this_lows, .inl (cI, 8, .inl c_this_lows)), (a_this_point, .inl (cI, 8, .inl c_this_point)), (a_this_rights, .inl (cI, 8, .inl c_this_rights)), (a_this_score, .inl (cI, 4, .inl c_this_score_136)), (a_this_terms, .inl (cI, 64, .inl c_this_terms)), (a_this_tos, .inl (cI, 4, .inl c_this_tos))] H locs → lv_has ls 5 [(0, .ref a_this), (1, .int v1_136), (2, .int v2_136)] → W p l e rm_X7_isPlan s m args below meth c H locs 0 0 Q (F0 m 136 ls []) := fun v1_136 v2_136 c_this_score_136 H locs ls h => ih_136 v1_136 v2_136 c_this_score_136 H locs ls (hw_136 _ _ _ h)
          unfold b_X7_isPlan_136 at hw
          refine lv_iload_n K.1 K.2.1 dX7_isPlan_136 rfl (lv_at hl 2 rfl) ?_
          refine lv_aload_n K.1 K.2.1 dX7_isPlan_137 rfl (lv_at hl 0 rfl) ?_
          refine g_get (v := .int c_this_aims) K hG hin_RX7 0 rfl rfl 2 (by decide) (K.2.2.2.2.1 (.fieldLink RX7 89 "AimFrontsModel" "aims" "I") (by decide +kernel)) rfl rfl dX7_isPlan_138 ?_
          refine lv_icmp_ge (tgt := 237) K.1 K.2.1 dX7_isPlan_141 (by decide) (fun q_141 => ?_) (fun q_141 => ?_)
          · have hw := hw.1 q_141
            exact hX_136 v1_136 c_this_score_136 H locs ls hw hG (lv_sub hl [1] rfl)
          · have hw := hw.2 q_141
            refine lv_aload_n K.1 K.2.1 dX7_isPlan_144 rfl (lv_at hl 0 rfl) ?_
            refine g_get (v := .ref a_this_score) K hG hin_RX7 0 rfl rfl 22 (by decide) (K.2.2.2.2.1 (.fieldLink RX7 52 "AimFrontsModel" "score" "[I") (by decide +kernel)) rfl rfl dX7_isPlan_145 ?_
            refine lv_iload_n K.1 K.2.1 dX7_isPlan_148 rfl (lv_at hl 2 rfl) ?_
            refine lv_iconst (v := 0) K.1 K.2.1 dX7_isPlan_149 (by decide) ?_
            obtain ⟨h_150, hw⟩ := hw
            refine g_iast (ws' := [(a_this, .inr (6, [.int c_this_columns, .int c_this_rows, .int c_this_aims, .ref a_this_lows, .ref a_this_highs, .ref a_this_rights, .ref a_this_terms, .ref a_this_costs, .ref a_this_froms, .ref a_this_tos, .int c_this_gone, .int c_this_plans, .ref a_this_planPoint, .ref a_this_planScore, .int c_this_front, .ref a_this_frontPlan, .ref a_this_frontTies, .int c_this_picks, .ref a_this_pick, .int c_this_hasClimbed, .ref a_this_end, .ref a_this_point, .ref a_this_score, .ref a_this_by, .ref a_this_four, .ref a_this_isNear, .ref a_this_number, .ref a_this_numbers, .ref a_this_place, .ref a_this_was])), (a_this_costs, .inl (cI, 32, .inl c_this_costs)), (a_this_froms, .inl (cI, 4, .inl c_this_froms)), (a_this_highs, .inl (cI, 8, .inl c_this_highs)), (a_this_lows, .inl (cI, 8, .inl c_this_lows)), (a_this_point, .inl (cI, 8, .inl c_this_point)), (a_this_rights, .inl (cI, 8, .inl c_this_rights)), (a_this_score, .inl (cI, 4, .inl (upd c_this_score_136 (v2_136).toNatClampNeg (0 : Int32)))), (a_this_terms, .inl (cI, 64, .inl c_this_terms)), (a_this_tos, .inl (cI, 4, .inl c_this_tos))]) K hG 7 rfl h_150 rfl dX7_isPlan_150 (fun H locs hG => ?_)
            refine lv_iconst (v := 0) K.1 K.2.1 dX7_isPlan_151 (by decide) ?_
            refine lv_istore_n (lv' := [(3, .int (0 : Int32)), (0, .ref a_this), (1, .int v1_136), (2, .int v2_136)]) K.1 K.2.1 dX7_isPlan_152 rfl hl (by decide) rfl (fun ls hl => ?_)
            obtain ⟨kx_153, hkx_153, n_153, hw⟩ := Lx1_2_abs hw
            have hX_153 : ∀ (c_this_score_153e : Nat → Int32) (H : Heap) (locs : List Loc) (ls : Array Slot), kx_153 c_this_score_153e → HW (dC, dI) A s.heap [(a_this, .inr (6, [.int c_this_columns, .int c_this_rows, .int c_this_aims, .ref a_this_lows, .ref a_this_highs, .ref a_this_rights, .ref a_this_terms, .ref a_this_costs, .ref a_this_froms, .ref a_this_tos, .int c_this_gone, .int c_this_plans, .ref a_this_planPoint, .ref a_this_planScore, .int c_this_front, .ref a_this_frontPlan, .ref a_this_frontTies, .int c_this_picks, .ref a_this_pick, .int c_this_hasClimbed, .ref a_this_end, .ref a_this_point, .ref a_this_score, .ref a_this_by, .ref a_this_four, .ref a_this_isNear, .ref a_this_number, .ref a_this_numbers, .ref a_this_place, .ref a_this_was])), (a_this_costs, .inl (cI, 32, .inl c_this_costs)), (a_this_froms, .inl (cI, 4, .inl c_this_froms)), (a_this_highs, .inl (cI, 8, .inl c_this_highs)), (a_this_lows, .inl (cI, 8, .inl c_this_lows)), (a_this_point, .inl (cI, 8, .inl c_this_point)), (a_this_rights, .inl (cI, 8, .inl c_this_rights)), (a_this_score, .inl (cI, 4, .inl c_this_score_153e)), (a_this_terms, .inl (cI, 64, .inl c_this_terms)), (a_this_tos, .inl (cI, 4, .inl c_this_tos))] H locs → lv_has ls 5 [(0, .ref a_this), (1, .int v1_136), (2, .int v2_136)] → W p l e rm_X7_isPlan s m args below meth c H locs 0 0 Q (F0 m 194 ls []) := by
              intro c_this_score_153e H locs ls hw hG hl
              have hw := hkx_153 _ hw
              refine lv_iload_n K.1 K.2.1 dX7_isPlan_194 rfl (lv_at hl 1 rfl) ?_
              refine lv_if_eq (tgt := 229) K.1 K.2.1 dX7_isPlan_195 (by decide) (fun q_195 => ?_) (fun q_195 => ?_)
              · have hw := hw.1 q_195
                refine lv_iconst (v := 0) K.1 K.2.1 dX7_isPlan_229 (by decide) ?_
                refine lv_istore_n (lv' := [(1, .int (0 : Int32)), (0, .ref a_this), (2, .int v2_136)]) K.1 K.2.1 dX7_isPlan_230 rfl hl (by decide) rfl (fun ls hl => ?_)
                refine lv_iinc (v := (v2_136 + (1 : Int32))) (lv' := [(2, .int (v2_136 + (1 : Int32))), (1, .int (0 : Int32)), (0, .ref a_this)]) K.1 K.2.1 dX7_isPlan_231 hl (k := 2) rfl rfl (by decide) rfl (fun ls hl => ?_)
                refine lv_goto (tgt := 136) K.1 K.2.1 dX7_isPlan_234 (by decide) ?_
                exact ih_136 (0 : Int32) (v2_136 + (1 : Int32)) c_this_score_153e H locs ls hw hG (lv_sub hl [2, 1, 0] rfl)
              · have hw := hw.2 q_195
                refine lv_aload_n K.1 K.2.1 dX7_isPlan_198 rfl (lv_at hl 0 rfl) ?_
                refine g_get (v := .ref a_this_score) K hG hin_RX7 0 rfl rfl 22 (by decide) (K.2.2.2.2.1 (.fieldLink RX7 52 "AimFrontsModel" "score" "[I") (by decide +kernel)) rfl rfl dX7_isPlan_199 ?_
                refine lv_iload_n K.1 K.2.1 dX7_isPlan_202 rfl (lv_at hl 2 rfl) ?_
                obtain ⟨h_203, hw⟩ := hw
                refine g_iald K hG 7 rfl h_203 dX7_isPlan_203 ?_
                refine lv_i2l K.1 K.2.1 dX7_isPlan_204 rfl ?_
                refine lv_aload_n K.1 K.2.1 dX7_isPlan_205 rfl (lv_at hl 0 rfl) ?_
                refine g_get (v := .ref a_this_froms) K hG hin_RX7 0 rfl rfl 8 (by decide) (K.2.2.2.2.1 (.fieldLink RX7 25 "AimFrontsModel" "froms" "[I") (by decide +kernel)) rfl rfl dX7_isPlan_206 ?_
                refine lv_iload_n K.1 K.2.1 dX7_isPlan_209 rfl (lv_at hl 2 rfl) ?_
                obtain ⟨h_210, hw⟩ := hw
                refine g_iald K hG 2 rfl h_210 dX7_isPlan_210 ?_
                refine lv_i2l K.1 K.2.1 dX7_isPlan_211 rfl ?_
                refine lv_aload_n K.1 K.2.1 dX7_isPlan_212 rfl (lv_at hl 0 rfl) ?_
                refine g_get (v := .ref a_this_tos) K hG hin_RX7 0 rfl rfl 9 (by decide) (K.2.2.2.2.1 (.fieldLink RX7 28 "AimFrontsModel" "tos" "[I") (by decide +kernel)) rfl rfl dX7_isPlan_213 ?_
                refine lv_iload_n K.1 K.2.1 dX7_isPlan_216 rfl (lv_at hl 2 rfl) ?_
                obtain ⟨h_217, hw⟩ := hw
                refine g_iald K hG 9 rfl h_217 dX7_isPlan_217 ?_
                refine lv_i2l K.1 K.2.1 dX7_isPlan_218 rfl ?_
                refine g_ri K hG [] rfl (g_runS (As := [.long (((c_this_score_153e (v2_136).toNatClampNeg)).toInt64), .long (((c_this_froms (v2_136).toNatClampNeg)).toInt64), .long (((c_this_tos (v2_136).toNatClampNeg)).toInt64)]) (rest := []) K hG hl [] rfl rfl (k_X7_in l dC dI cI cJ cZ cG H.size (((c_this_score_153e (v2_136).toNatClampNeg)).toInt64) (((c_this_froms (v2_136).toNatClampNeg)).toInt64) (((c_this_tos (v2_136).toNatClampNeg)).toInt64) _ hw) (va_cwS 3 K.2.2.2.2.1 gX7_isPlan_X7_in rfl rfl rfl (by decide +kernel) ⟨by decide, by decide⟩) rfl rfl (Nat.le_of_ble_eq_true rfl) ⟨Nat.zero_le _, Nat.zero_le _⟩ dX7_isPlan_219) (fun r_219 H locs hw hG => ?_)
                refine lv_if_eq (tgt := 229) K.1 K.2.1 dX7_isPlan_222 (by decide) (fun q_222 => ?_) (fun q_222 => ?_)
                · have hw := hw.1 q_222
                  refine lv_iconst (v := 0) K.1 K.2.1 dX7_isPlan_229 (by decide) ?_
                  refine lv_istore_n (lv' := [(1, .int (0 : Int32)), (0, .ref a_this), (2, .int v2_136)]) K.1 K.2.1 dX7_isPlan_230 rfl hl (by decide) rfl (fun ls hl => ?_)
                  refine lv_iinc (v := (v2_136 + (1 : Int32))) (lv' := [(2, .int (v2_136 + (1 : Int32))), (1, .int (0 : Int32)), (0, .ref a_this)]) K.1 K.2.1 dX7_isPlan_231 hl (k := 2) rfl rfl (by decide) rfl (fun ls hl => ?_)
                  refine lv_goto (tgt := 136) K.1 K.2.1 dX7_isPlan_234 (by decide) ?_
                  exact ih_136 (0 : Int32) (v2_136 + (1 : Int32)) c_this_score_153e H locs ls hw hG (lv_sub hl [2, 1, 0] rfl)
                · have hw := hw.2 q_222
                  refine lv_iconst (v := 1) K.1 K.2.1 dX7_isPlan_225 (by decide) ?_
                  refine lv_goto (tgt := 230) K.1 K.2.1 dX7_isPlan_226 (by decide) ?_
                  refine lv_istore_n (lv' := [(1, .int (1 : Int32)), (0, .ref a_this), (2, .int v2_136)]) K.1 K.2.1 dX7_isPlan_230 rfl hl (by decide) rfl (fun ls hl => ?_)
                  refine lv_iinc (v := (v2_136 + (1 : Int32))) (lv' := [(2, .int (v2_136 + (1 : Int32))), (1, .int (1 : Int32)), (0, .ref a_this)]) K.1 K.2.1 dX7_isPlan_231 hl (k := 2) rfl rfl (by decide) rfl (fun ls hl => ?_)
                  refine lv_goto (tgt := 136) K.1 K.2.1 dX7_isPlan_234 (by decide) ?_
                  exact ih_136 (1 : Int32) (v2_136 + (1 : Int32)) c_this_score_153e H locs ls hw hG (lv_sub hl [2, 1, 0] rfl)
            have hL_153 : ∀ (n : Nat), ∀ (v3_153 : Int32) (c_this_score_153 : Nat → Int32) (H : Heap) (locs : List Loc) (ls : Array Slot), Lp2 (b_X7_isPlan_153 c_this_columns c_this_costs c_this_point v2_136 kx_153) n v3_153 c_this_score_153 → HW (dC, dI) A s.heap [(a_this, .inr (6, [.int c_this_columns, .int c_this_rows, .int c_this_aims, .ref a_this_lows, .ref a_this_highs, .ref a_this_rights, .ref a_this_terms, .ref a_this_costs, .ref a_this_froms, .ref a_this_tos, .int c_this_gone, .int c_this_plans, .ref a_this_planPoint, .ref a_this_planScore, .int c_this_front, .ref a_this_frontPlan, .ref a_this_frontTies, .int c_this_picks, .ref a_this_pick, .int c_this_hasClimbed, .ref a_this_end, .ref a_this_point, .ref a_this_score, .ref a_this_by, .ref a_this_four, .ref a_this_isNear, .ref a_this_number, .ref a_this_numbers, .ref a_this_place, .ref a_this_was])), (a_this_costs, .inl (cI, 32, .inl c_this_costs)), (a_this_froms, .inl (cI, 4, .inl c_this_froms)), (a_this_highs, .inl (cI, 8, .inl c_this_highs)), (a_this_lows, .inl (cI, 8, .inl c_this_lows)), (a_this_point, .inl (cI, 8, .inl c_this_point)), (a_this_rights, .inl (cI, 8, .inl c_this_rights)), (a_this_score, .inl (cI, 4, .inl c_this_score_153)), (a_this_terms, .inl (cI, 64, .inl c_this_terms)), (a_this_tos, .inl (cI, 4, .inl c_this_tos))] H locs → lv_has ls 5 [(0, .ref a_this), (1, .int v1_136), (2, .int v2_136), (3, .int v3_153)] → W p l e rm_X7_isPlan s m args below meth c H locs 0 0 Q (F0 m 153 ls []) := by
              intro n
              induction n with
              | zero => intro v3_153 c_this_score_153 H locs ls hw; exact False.elim hw
              | succ n ih_153 =>
                intro v3_153 c_this_score_153 H locs ls hw hG hl
                obtain ⟨w_153, hw_153, hw⟩ : ∃ w' : Int32 → (Nat → Int32) → Prop, (∀ v3_153 c_this_score_153, w' v3_153 c_this_score_153 → Lp2 (b_X7_isPlan_153 c_this_columns c_this_costs c_this_point v2_136 kx_153) n v3_153 c_this_score_153) ∧ b_X7_isPlan_153 c_this_columns c_this_costs c_this_point v2_136 kx_153 w' v3_153 c_this_score_153 := ⟨_, fun _ _ h => h, hw⟩
                replace ih_153 : ∀ (v3_153 : Int32) (c_this_score_153 : Nat → Int32) (H : Heap) (locs : List Loc) (ls : Array Slot), w_153 v3_153 c_this_score_153 → HW (dC, dI) A s.heap [(a_this, .inr (6, [.int c_this_columns, .int c_this_rows, .int c_this_aims, .ref a_this_lows, .ref a_this_highs, .ref a_this_rights, .ref a_this_terms, .ref a_this_costs, .ref a_this_froms, .ref a_this_tos, .int c_this_gone, .int c_this_plans, .ref a_this_planPoint, .ref a_this_planScore, .int c_this_front, .ref a_this_frontPlan, .ref a_this_frontTies, .int c_this_picks, .ref a_this_pick, .int c_this_hasClimbed, .ref a_this_end, .ref a_this_point, .ref a_this_score, .ref a_this_by, .ref a_this_four, .ref a_this_isNear, .ref a_this_number, .ref a_this_numbers, .ref a_this_place, .ref a_this_was])), (a_this_costs, .inl (cI, 32, .inl c_this_costs)), (a_this_froms, .inl (cI, 4, .inl c_this_froms)), (a_this_highs, .inl (cI, 8, .inl c_this_highs)), (a_this_lows, .inl (cI, 8, .inl c_this_lows)), (a_this_point, .inl (cI, 8, .inl c_this_point)), (a_this_rights, .inl (cI, 8, .inl c_this_rights)), (a_this_score, .inl (cI, 4, .inl c_this_score_153)), (a_this_terms, .inl (cI, 64, .inl c_this_terms)), (a_this_tos, .inl (cI, 4, .inl c_this_tos))] H locs → lv_has ls 5 [(0, .ref a_this), (1, .int v1_136), (2, .int v2_136), (3, .int v3_153)] → W p l e rm_X7_isPlan s m args below meth c H locs 0 0 Q (F0 m 153 ls []) := fun v3_153 c_this_score_153 H locs ls h => ih_153 v3_153 c_this_score_153 H locs ls (hw_153 _ _ h)
                unfold b_X7_isPlan_153 at hw
                refine lv_iload_n K.1 K.2.1 dX7_isPlan_153 rfl (lv_at hl 3 rfl) ?_
                refine lv_aload_n K.1 K.2.1 dX7_isPlan_154 rfl (lv_at hl 0 rfl) ?_
                refine g_get (v := .int c_this_columns) K hG hin_RX7 0 rfl rfl 0 (by decide) (K.2.2.2.2.1 (.fieldLink RX7 78 "AimFrontsModel" "columns" "I") (by decide +kernel)) rfl rfl dX7_isPlan_155 ?_
                refine lv_icmp_ge (tgt := 194) K.1 K.2.1 dX7_isPlan_158 (by decide) (fun q_158 => ?_) (fun q_158 => ?_)
                · have hw := hw.1 q_158
                  exact hX_153 c_this_score_153 H locs ls hw hG (lv_sub hl [0, 1, 2] rfl)
                · have hw := hw.2 q_158
                  refine lv_aload_n K.1 K.2.1 dX7_isPlan_161 rfl (lv_at hl 0 rfl) ?_
                  refine g_get (v := .ref a_this_score) K hG hin_RX7 0 rfl rfl 22 (by decide) (K.2.2.2.2.1 (.fieldLink RX7 52 "AimFrontsModel" "score" "[I") (by decide +kernel)) rfl rfl dX7_isPlan_162 ?_
                  refine lv_iload_n K.1 K.2.1 dX7_isPlan_165 rfl (lv_at hl 2 rfl) ?_
                  refine lv_dup2_11 K.1 K.2.1 dX7_isPlan_166 rfl rfl ?_
                  obtain ⟨h_167, hw⟩ := hw
                  refine g_iald K hG 7 rfl h_167 dX7_isPlan_167 ?_
                  refine lv_aload_n K.1 K.2.1 dX7_isPlan_168 rfl (lv_at hl 0 rfl) ?_
                  refine g_get (v := .ref a_this_costs) K hG hin_RX7 0 rfl rfl 7 (by decide) (K.2.2.2.2.1 (.fieldLink RX7 22 "AimFrontsModel" "costs" "[I") (by decide +kernel)) rfl rfl dX7_isPlan_169 ?_
                  refine lv_bipush (v := 8) K.1 K.2.1 dX7_isPlan_172 (by decide) ?_
                  refine lv_iload_n K.1 K.2.1 dX7_isPlan_174 rfl (lv_at hl 2 rfl) ?_
                  refine lv_imul K.1 K.2.1 dX7_isPlan_175 ?_
                  refine lv_iload_n K.1 K.2.1 dX7_isPlan_176 rfl (lv_at hl 3 rfl) ?_
                  refine lv_iadd K.1 K.2.1 dX7_isPlan_177 ?_
                  obtain ⟨h_178, hw⟩ := hw
                  refine g_iald K hG 1 rfl h_178 dX7_isPlan_178 ?_
                  refine lv_aload_n K.1 K.2.1 dX7_isPlan_179 rfl (lv_at hl 0 rfl) ?_
                  refine g_get (v := .ref a_this_point) K hG hin_RX7 0 rfl rfl 21 (by decide) (K.2.2.2.2.1 (.fieldLink RX7 49 "AimFrontsModel" "point" "[I") (by decide +kernel)) rfl rfl dX7_isPlan_180 ?_
                  refine lv_iload_n K.1 K.2.1 dX7_isPlan_183 rfl (lv_at hl 3 rfl) ?_
                  obtain ⟨h_184, hw⟩ := hw
                  refine g_iald K hG 5 rfl h_184 dX7_isPlan_184 ?_
                  refine lv_imul K.1 K.2.1 dX7_isPlan_185 ?_
                  refine lv_iadd K.1 K.2.1 dX7_isPlan_186 ?_
                  obtain ⟨h_187, hw⟩ := hw
                  refine g_iast (ws' := [(a_this, .inr (6, [.int c_this_columns, .int c_this_rows, .int c_this_aims, .ref a_this_lows, .ref a_this_highs, .ref a_this_rights, .ref a_this_terms, .ref a_this_costs, .ref a_this_froms, .ref a_this_tos, .int c_this_gone, .int c_this_plans, .ref a_this_planPoint, .ref a_this_planScore, .int c_this_front, .ref a_this_frontPlan, .ref a_this_frontTies, .int c_this_picks, .ref a_this_pick, .int c_this_hasClimbed, .ref a_this_end, .ref a_this_point, .ref a_this_score, .ref a_this_by, .ref a_this_four, .ref a_this_isNear, .ref a_this_number, .ref a_this_numbers, .ref a_this_place, .ref a_this_was])), (a_this_costs, .inl (cI, 32, .inl c_this_costs)), (a_this_froms, .inl (cI, 4, .inl c_this_froms)), (a_this_highs, .inl (cI, 8, .inl c_this_highs)), (a_this_lows, .inl (cI, 8, .inl c_this_lows)), (a_this_point, .inl (cI, 8, .inl c_this_point)), (a_this_rights, .inl (cI, 8, .inl c_this_rights)), (a_this_score, .inl (cI, 4, .inl (upd c_this_score_153 (v2_136).toNatClampNeg ((c_this_score_153 (v2_136).toNatClampNeg) + ((c_this_costs ((((8 : Int32) * v2_136) + v3_153)).toNatClampNeg) * (c_this_point (v3_153).toNatClampNeg)))))), (a_this_terms, .inl (cI, 64, .inl c_this_terms)), (a_this_tos, .inl (cI, 4, .inl c_this_tos))]) K hG 7 rfl h_187 rfl dX7_isPlan_187 (fun H locs hG => ?_)
                  refine lv_iinc (v := (v3_153 + (1 : Int32))) (lv' := [(3, .int (v3_153 + (1 : Int32))), (0, .ref a_this), (1, .int v1_136), (2, .int v2_136)]) K.1 K.2.1 dX7_isPlan_188 hl (k := 3) rfl rfl (by decide) rfl (fun ls hl => ?_)
                  refine lv_goto (tgt := 153) K.1 K.2.1 dX7_isPlan_191 (by decide) ?_
                  exact ih_153 (v3_153 + (1 : Int32)) (upd c_this_score_153 (v2_136).toNatClampNeg ((c_this_score_153 (v2_136).toNatClampNeg) + ((c_this_costs ((((8 : Int32) * v2_136) + v3_153)).toNatClampNeg) * (c_this_point (v3_153).toNatClampNeg)))) H locs ls hw hG (lv_sub hl [1, 2, 3, 0] rfl)
            exact hL_153 n_153 (0 : Int32) (upd c_this_score_136 (v2_136).toNatClampNeg (0 : Int32)) H locs ls hw hG (lv_sub hl [1, 2, 3, 0] rfl)
      exact hL_136 n_136 v1_57e (0 : Int32) c_this_score H locs ls hw hG (lv_sub hl [1, 2, 0] rfl)
    have hL_57 : ∀ (n : Nat), ∀ (v1_57 : Int32) (v2_57 : Int32) (H : Heap) (locs : List Loc) (ls : Array Slot), Lp2 (b_X7_isPlan_57 c_this_columns c_this_rows c_this_point c_this_rights c_this_terms kx_57) n v1_57 v2_57 → HW (dC, dI) A s.heap [(a_this, .inr (6, [.int c_this_columns, .int c_this_rows, .int c_this_aims, .ref a_this_lows, .ref a_this_highs, .ref a_this_rights, .ref a_this_terms, .ref a_this_costs, .ref a_this_froms, .ref a_this_tos, .int c_this_gone, .int c_this_plans, .ref a_this_planPoint, .ref a_this_planScore, .int c_this_front, .ref a_this_frontPlan, .ref a_this_frontTies, .int c_this_picks, .ref a_this_pick, .int c_this_hasClimbed, .ref a_this_end, .ref a_this_point, .ref a_this_score, .ref a_this_by, .ref a_this_four, .ref a_this_isNear, .ref a_this_number, .ref a_this_numbers, .ref a_this_place, .ref a_this_was])), (a_this_costs, .inl (cI, 32, .inl c_this_costs)), (a_this_froms, .inl (cI, 4, .inl c_this_froms)), (a_this_highs, .inl (cI, 8, .inl c_this_highs)), (a_this_lows, .inl (cI, 8, .inl c_this_lows)), (a_this_point, .inl (cI, 8, .inl c_this_point)), (a_this_rights, .inl (cI, 8, .inl c_this_rights)), (a_this_score, .inl (cI, 4, .inl c_this_score)), (a_this_terms, .inl (cI, 64, .inl c_this_terms)), (a_this_tos, .inl (cI, 4, .inl c_this_tos))] H locs → lv_has ls 5 [(0, .ref a_this), (1, .int v1_57), (2, .int v2_57)] → W p l e rm_X7_isPlan s m args below meth c H locs 0 0 Q (F0 m 57 ls []) := by
      intro n
      induction n with
      | zero => intro v1_57 v2_57 H locs ls hw; exact False.elim hw
      | succ n ih_57 =>
        intro v1_57 v2_57 H locs ls hw hG hl
        obtain ⟨w_57, hw_57, hw⟩ : ∃ w' : Int32 → Int32 → Prop, (∀ v1_57 v2_57, w' v1_57 v2_57 → Lp2 (b_X7_isPlan_57 c_this_columns c_this_rows c_this_point c_this_rights c_this_terms kx_57) n v1_57 v2_57) ∧ b_X7_isPlan_57 c_this_columns c_this_rows c_this_point c_this_rights c_this_terms kx_57 w' v1_57 v2_57 := ⟨_, fun _ _ h => h, hw⟩
        replace ih_57 : ∀ (v1_57 : Int32) (v2_57 : Int32) (H : Heap) (locs : List Loc) (ls : Array Slot), w_57 v1_57 v2_57 → HW (dC, dI) A s.heap [(a_this, .inr (6, [.int c_this_columns, .int c_this_rows, .int c_this_aims, .ref a_this_lows, .ref a_this_highs, .ref a_this_rights, .ref a_this_terms, .ref a_this_costs, .ref a_this_froms, .ref a_this_tos, .int c_this_gone, .int c_this_plans, .ref a_this_planPoint, .ref a_this_planScore, .int c_this_front, .ref a_this_frontPlan, .ref a_this_frontTies, .int c_this_picks, .ref a_this_pick, .int c_this_hasClimbed, .ref a_this_end, .ref a_this_point, .ref a_this_score, .ref a_this_by, .ref a_this_four, .ref a_this_isNear, .ref a_this_number, .ref a_this_numbers, .ref a_this_place, .ref a_this_was])), (a_this_costs, .inl (cI, 32, .inl c_this_costs)), (a_this_froms, .inl (cI, 4, .inl c_this_froms)), (a_this_highs, .inl (cI, 8, .inl c_this_highs)), (a_this_lows, .inl (cI, 8, .inl c_this_lows)), (a_this_point, .inl (cI, 8, .inl c_this_point)), (a_this_rights, .inl (cI, 8, .inl c_this_rights)), (a_this_score, .inl (cI, 4, .inl c_this_score)), (a_this_terms, .inl (cI, 64, .inl c_this_terms)), (a_this_tos, .inl (cI, 4, .inl c_this_tos))] H locs → lv_has ls 5 [(0, .ref a_this), (1, .int v1_57), (2, .int v2_57)] → W p l e rm_X7_isPlan s m args below meth c H locs 0 0 Q (F0 m 57 ls []) := fun v1_57 v2_57 H locs ls h => ih_57 v1_57 v2_57 H locs ls (hw_57 _ _ h)
        unfold b_X7_isPlan_57 at hw
        refine lv_iload_n K.1 K.2.1 dX7_isPlan_57 rfl (lv_at hl 2 rfl) ?_
        refine lv_aload_n K.1 K.2.1 dX7_isPlan_58 rfl (lv_at hl 0 rfl) ?_
        refine g_get (v := .int c_this_rows) K hG hin_RX7 0 rfl rfl 1 (by decide) (K.2.2.2.2.1 (.fieldLink RX7 86 "AimFrontsModel" "rows" "I") (by decide +kernel)) rfl rfl dX7_isPlan_59 ?_
        refine lv_icmp_ge (tgt := 134) K.1 K.2.1 dX7_isPlan_62 (by decide) (fun q_62 => ?_) (fun q_62 => ?_)
        · have hw := hw.1 q_62
          exact hX_57 v1_57 H locs ls hw hG (lv_sub hl [0, 1] rfl)
        · have hw := hw.2 q_62
          refine lv_iconst (v := 0) K.1 K.2.1 dX7_isPlan_65 (by decide) ?_
          refine lv_istore_n (lv' := [(3, .int (0 : Int32)), (0, .ref a_this), (1, .int v1_57), (2, .int v2_57)]) K.1 K.2.1 dX7_isPlan_66 rfl hl (by decide) rfl (fun ls hl => ?_)
          refine lv_iconst (v := 0) K.1 K.2.1 dX7_isPlan_67 (by decide) ?_
          refine lv_istore (lv' := [(4, .int (0 : Int32)), (3, .int (0 : Int32)), (0, .ref a_this), (1, .int v1_57), (2, .int v2_57)]) K.1 K.2.1 dX7_isPlan_68 hl (by decide) rfl (fun ls hl => ?_)
          obtain ⟨kx_70, hkx_70, n_70, hw⟩ := Lx1_2_abs hw
          have hX_70 : ∀ (v3_70e : Int32) (H : Heap) (locs : List Loc) (ls : Array Slot), kx_70 v3_70e → HW (dC, dI) A s.heap [(a_this, .inr (6, [.int c_this_columns, .int c_this_rows, .int c_this_aims, .ref a_this_lows, .ref a_this_highs, .ref a_this_rights, .ref a_this_terms, .ref a_this_costs, .ref a_this_froms, .ref a_this_tos, .int c_this_gone, .int c_this_plans, .ref a_this_planPoint, .ref a_this_planScore, .int c_this_front, .ref a_this_frontPlan, .ref a_this_frontTies, .int c_this_picks, .ref a_this_pick, .int c_this_hasClimbed, .ref a_this_end, .ref a_this_point, .ref a_this_score, .ref a_this_by, .ref a_this_four, .ref a_this_isNear, .ref a_this_number, .ref a_this_numbers, .ref a_this_place, .ref a_this_was])), (a_this_costs, .inl (cI, 32, .inl c_this_costs)), (a_this_froms, .inl (cI, 4, .inl c_this_froms)), (a_this_highs, .inl (cI, 8, .inl c_this_highs)), (a_this_lows, .inl (cI, 8, .inl c_this_lows)), (a_this_point, .inl (cI, 8, .inl c_this_point)), (a_this_rights, .inl (cI, 8, .inl c_this_rights)), (a_this_score, .inl (cI, 4, .inl c_this_score)), (a_this_terms, .inl (cI, 64, .inl c_this_terms)), (a_this_tos, .inl (cI, 4, .inl c_this_tos))] H locs → lv_has ls 5 [(0, .ref a_this), (1, .int v1_57), (2, .int v2_57), (3, .int v3_70e)] → W p l e rm_X7_isPlan s m args below meth c H locs 0 0 Q (F0 m 108 ls []) := by
            intro v3_70e H locs ls hw hG hl
            have hw := hkx_70 _ hw
            refine lv_iload_n K.1 K.2.1 dX7_isPlan_108 rfl (lv_at hl 1 rfl) ?_
            refine lv_if_eq (tgt := 126) K.1 K.2.1 dX7_isPlan_109 (by decide) (fun q_109 => ?_) (fun q_109 => ?_)
            · have hw := hw.1 q_109
              refine lv_iconst (v := 0) K.1 K.2.1 dX7_isPlan_126 (by decide) ?_
              refine lv_istore_n (lv' := [(1, .int (0 : Int32)), (0, .ref a_this), (2, .int v2_57), (3, .int v3_70e)]) K.1 K.2.1 dX7_isPlan_127 rfl hl (by decide) rfl (fun ls hl => ?_)
              refine lv_iinc (v := (v2_57 + (1 : Int32))) (lv' := [(2, .int (v2_57 + (1 : Int32))), (1, .int (0 : Int32)), (0, .ref a_this), (3, .int v3_70e)]) K.1 K.2.1 dX7_isPlan_128 hl (k := 2) rfl rfl (by decide) rfl (fun ls hl => ?_)
              refine lv_goto (tgt := 57) K.1 K.2.1 dX7_isPlan_131 (by decide) ?_
              exact ih_57 (0 : Int32) (v2_57 + (1 : Int32)) H locs ls hw hG (lv_sub hl [2, 1, 0] rfl)
            · have hw := hw.2 q_109
              refine lv_iload_n K.1 K.2.1 dX7_isPlan_112 rfl (lv_at hl 3 rfl) ?_
              refine lv_aload_n K.1 K.2.1 dX7_isPlan_113 rfl (lv_at hl 0 rfl) ?_
              refine g_get (v := .ref a_this_rights) K hG hin_RX7 0 rfl rfl 5 (by decide) (K.2.2.2.2.1 (.fieldLink RX7 16 "AimFrontsModel" "rights" "[I") (by decide +kernel)) rfl rfl dX7_isPlan_114 ?_
              refine lv_iload_n K.1 K.2.1 dX7_isPlan_117 rfl (lv_at hl 2 rfl) ?_
              obtain ⟨h_118, hw⟩ := hw
              refine g_iald K hG 6 rfl h_118 dX7_isPlan_118 ?_
              refine lv_icmp_gt (tgt := 126) K.1 K.2.1 dX7_isPlan_119 (by decide) (fun q_119 => ?_) (fun q_119 => ?_)
              · have hw := hw.1 q_119
                refine lv_iconst (v := 0) K.1 K.2.1 dX7_isPlan_126 (by decide) ?_
                refine lv_istore_n (lv' := [(1, .int (0 : Int32)), (0, .ref a_this), (2, .int v2_57), (3, .int v3_70e)]) K.1 K.2.1 dX7_isPlan_127 rfl hl (by decide) rfl (fun ls hl => ?_)
                refine lv_iinc (v := (v2_57 + (1 : Int32))) (lv' := [(2, .int (v2_57 + (1 : Int32))), (1, .int (0 : Int32)), (0, .ref a_this), (3, .int v3_70e)]) K.1 K.2.1 dX7_isPlan_128 hl (k := 2) rfl rfl (by decide) rfl (fun ls hl => ?_)
                refine lv_goto (tgt := 57) K.1 K.2.1 dX7_isPlan_131 (by decide) ?_
                exact ih_57 (0 : Int32) (v2_57 + (1 : Int32)) H locs ls hw hG (lv_sub hl [2, 1, 0] rfl)
              · have hw := hw.2 q_119
                refine lv_iconst (v := 1) K.1 K.2.1 dX7_isPlan_122 (by decide) ?_
                refine lv_goto (tgt := 127) K.1 K.2.1 dX7_isPlan_123 (by decide) ?_
                refine lv_istore_n (lv' := [(1, .int (1 : Int32)), (0, .ref a_this), (2, .int v2_57), (3, .int v3_70e)]) K.1 K.2.1 dX7_isPlan_127 rfl hl (by decide) rfl (fun ls hl => ?_)
                refine lv_iinc (v := (v2_57 + (1 : Int32))) (lv' := [(2, .int (v2_57 + (1 : Int32))), (1, .int (1 : Int32)), (0, .ref a_this), (3, .int v3_70e)]) K.1 K.2.1 dX7_isPlan_128 hl (k := 2) rfl rfl (by decide) rfl (fun ls hl => ?_)
                refine lv_goto (tgt := 57) K.1 K.2.1 dX7_isPlan_131 (by decide) ?_
                exact ih_57 (1 : Int32) (v2_57 + (1 : Int32)) H locs ls hw hG (lv_sub hl [2, 1, 0] rfl)
          have hL_70 : ∀ (n : Nat), ∀ (v3_70 : Int32) (v4_70 : Int32) (H : Heap) (locs : List Loc) (ls : Array Slot), Lp2 (b_X7_isPlan_70 c_this_columns c_this_point c_this_terms v2_57 kx_70) n v3_70 v4_70 → HW (dC, dI) A s.heap [(a_this, .inr (6, [.int c_this_columns, .int c_this_rows, .int c_this_aims, .ref a_this_lows, .ref a_this_highs, .ref a_this_rights, .ref a_this_terms, .ref a_this_costs, .ref a_this_froms, .ref a_this_tos, .int c_this_gone, .int c_this_plans, .ref a_this_planPoint, .ref a_this_planScore, .int c_this_front, .ref a_this_frontPlan, .ref a_this_frontTies, .int c_this_picks, .ref a_this_pick, .int c_this_hasClimbed, .ref a_this_end, .ref a_this_point, .ref a_this_score, .ref a_this_by, .ref a_this_four, .ref a_this_isNear, .ref a_this_number, .ref a_this_numbers, .ref a_this_place, .ref a_this_was])), (a_this_costs, .inl (cI, 32, .inl c_this_costs)), (a_this_froms, .inl (cI, 4, .inl c_this_froms)), (a_this_highs, .inl (cI, 8, .inl c_this_highs)), (a_this_lows, .inl (cI, 8, .inl c_this_lows)), (a_this_point, .inl (cI, 8, .inl c_this_point)), (a_this_rights, .inl (cI, 8, .inl c_this_rights)), (a_this_score, .inl (cI, 4, .inl c_this_score)), (a_this_terms, .inl (cI, 64, .inl c_this_terms)), (a_this_tos, .inl (cI, 4, .inl c_this_tos))] H locs → lv_has ls 5 [(0, .ref a_this), (1, .int v1_57), (2, .int v2_57), (3, .int v3_70), (4, .int v4_70)] → W p l e rm_X7_isPlan s m args below meth c H locs 0 0 Q (F0 m 70 ls []) := by
            intro n
            induction n with
            | zero => intro v3_70 v4_70 H locs ls hw; exact False.elim hw
            | succ n ih_70 =>
              intro v3_70 v4_70 H locs ls hw hG hl
              obtain ⟨w_70, hw_70, hw⟩ : ∃ w' : Int32 → Int32 → Prop, (∀ v3_70 v4_70, w' v3_70 v4_70 → Lp2 (b_X7_isPlan_70 c_this_columns c_this_point c_this_terms v2_57 kx_70) n v3_70 v4_70) ∧ b_X7_isPlan_70 c_this_columns c_this_point c_this_terms v2_57 kx_70 w' v3_70 v4_70 := ⟨_, fun _ _ h => h, hw⟩
              replace ih_70 : ∀ (v3_70 : Int32) (v4_70 : Int32) (H : Heap) (locs : List Loc) (ls : Array Slot), w_70 v3_70 v4_70 → HW (dC, dI) A s.heap [(a_this, .inr (6, [.int c_this_columns, .int c_this_rows, .int c_this_aims, .ref a_this_lows, .ref a_this_highs, .ref a_this_rights, .ref a_this_terms, .ref a_this_costs, .ref a_this_froms, .ref a_this_tos, .int c_this_gone, .int c_this_plans, .ref a_this_planPoint, .ref a_this_planScore, .int c_this_front, .ref a_this_frontPlan, .ref a_this_frontTies, .int c_this_picks, .ref a_this_pick, .int c_this_hasClimbed, .ref a_this_end, .ref a_this_point, .ref a_this_score, .ref a_this_by, .ref a_this_four, .ref a_this_isNear, .ref a_this_number, .ref a_this_numbers, .ref a_this_place, .ref a_this_was])), (a_this_costs, .inl (cI, 32, .inl c_this_costs)), (a_this_froms, .inl (cI, 4, .inl c_this_froms)), (a_this_highs, .inl (cI, 8, .inl c_this_highs)), (a_this_lows, .inl (cI, 8, .inl c_this_lows)), (a_this_point, .inl (cI, 8, .inl c_this_point)), (a_this_rights, .inl (cI, 8, .inl c_this_rights)), (a_this_score, .inl (cI, 4, .inl c_this_score)), (a_this_terms, .inl (cI, 64, .inl c_this_terms)), (a_this_tos, .inl (cI, 4, .inl c_this_tos))] H locs → lv_has ls 5 [(0, .ref a_this), (1, .int v1_57), (2, .int v2_57), (3, .int v3_70), (4, .int v4_70)] → W p l e rm_X7_isPlan s m args below meth c H locs 0 0 Q (F0 m 70 ls []) := fun v3_70 v4_70 H locs ls h => ih_70 v3_70 v4_70 H locs ls (hw_70 _ _ h)
              unfold b_X7_isPlan_70 at hw
              refine lv_iload K.1 K.2.1 dX7_isPlan_70 (lv_at hl 4 rfl) ?_
              refine lv_aload_n K.1 K.2.1 dX7_isPlan_72 rfl (lv_at hl 0 rfl) ?_
              refine g_get (v := .int c_this_columns) K hG hin_RX7 0 rfl rfl 0 (by decide) (K.2.2.2.2.1 (.fieldLink RX7 78 "AimFrontsModel" "columns" "I") (by decide +kernel)) rfl rfl dX7_isPlan_73 ?_
              refine lv_icmp_ge (tgt := 108) K.1 K.2.1 dX7_isPlan_76 (by decide) (fun q_76 => ?_) (fun q_76 => ?_)
              · have hw := hw.1 q_76
                exact hX_70 v3_70 H locs ls hw hG (lv_sub hl [0, 1, 2, 3] rfl)
              · have hw := hw.2 q_76
                refine lv_iload_n K.1 K.2.1 dX7_isPlan_79 rfl (lv_at hl 3 rfl) ?_
                refine lv_aload_n K.1 K.2.1 dX7_isPlan_80 rfl (lv_at hl 0 rfl) ?_
                refine g_get (v := .ref a_this_terms) K hG hin_RX7 0 rfl rfl 6 (by decide) (K.2.2.2.2.1 (.fieldLink RX7 19 "AimFrontsModel" "terms" "[I") (by decide +kernel)) rfl rfl dX7_isPlan_81 ?_
                refine lv_bipush (v := 8) K.1 K.2.1 dX7_isPlan_84 (by decide) ?_
                refine lv_iload_n K.1 K.2.1 dX7_isPlan_86 rfl (lv_at hl 2 rfl) ?_
                refine lv_imul K.1 K.2.1 dX7_isPlan_87 ?_
                refine lv_iload K.1 K.2.1 dX7_isPlan_88 (lv_at hl 4 rfl) ?_
                refine lv_iadd K.1 K.2.1 dX7_isPlan_90 ?_
                obtain ⟨h_91, hw⟩ := hw
                refine g_iald K hG 8 rfl h_91 dX7_isPlan_91 ?_
                refine lv_aload_n K.1 K.2.1 dX7_isPlan_92 rfl (lv_at hl 0 rfl) ?_
                refine g_get (v := .ref a_this_point) K hG hin_RX7 0 rfl rfl 21 (by decide) (K.2.2.2.2.1 (.fieldLink RX7 49 "AimFrontsModel" "point" "[I") (by decide +kernel)) rfl rfl dX7_isPlan_93 ?_
                refine lv_iload K.1 K.2.1 dX7_isPlan_96 (lv_at hl 4 rfl) ?_
                obtain ⟨h_98, hw⟩ := hw
                refine g_iald K hG 5 rfl h_98 dX7_isPlan_98 ?_
                refine lv_imul K.1 K.2.1 dX7_isPlan_99 ?_
                refine lv_iadd K.1 K.2.1 dX7_isPlan_100 ?_
                refine lv_istore_n (lv' := [(3, .int (v3_70 + ((c_this_terms ((((8 : Int32) * v2_57) + v4_70)).toNatClampNeg) * (c_this_point (v4_70).toNatClampNeg)))), (0, .ref a_this), (1, .int v1_57), (2, .int v2_57), (4, .int v4_70)]) K.1 K.2.1 dX7_isPlan_101 rfl hl (by decide) rfl (fun ls hl => ?_)
                refine lv_iinc (v := (v4_70 + (1 : Int32))) (lv' := [(4, .int (v4_70 + (1 : Int32))), (3, .int (v3_70 + ((c_this_terms ((((8 : Int32) * v2_57) + v4_70)).toNatClampNeg) * (c_this_point (v4_70).toNatClampNeg)))), (0, .ref a_this), (1, .int v1_57), (2, .int v2_57)]) K.1 K.2.1 dX7_isPlan_102 hl (k := 4) rfl rfl (by decide) rfl (fun ls hl => ?_)
                refine lv_goto (tgt := 70) K.1 K.2.1 dX7_isPlan_105 (by decide) ?_
                exact ih_70 (v3_70 + ((c_this_terms ((((8 : Int32) * v2_57) + v4_70)).toNatClampNeg) * (c_this_point (v4_70).toNatClampNeg))) (v4_70 + (1 : Int32)) H locs ls hw hG (lv_sub hl [2, 3, 4, 1, 0] rfl)
          exact hL_70 n_70 (0 : Int32) (0 : Int32) H locs ls hw hG (lv_sub hl [2, 3, 4, 1, 0] rfl)
    exact hL_57 n_57 v1_4e (0 : Int32) H locs ls hw hG (lv_sub hl [1, 2, 0] rfl)
  have hL_4 : ∀ (n : Nat), ∀ (v1_4 : Int32) (v2_4 : Int32) (H : Heap) (locs : List Loc) (ls : Array Slot), Lp2 (b_X7_isPlan_4 c_this_columns c_this_highs c_this_lows c_this_point kx_4) n v1_4 v2_4 → HW (dC, dI) A s.heap [(a_this, .inr (6, [.int c_this_columns, .int c_this_rows, .int c_this_aims, .ref a_this_lows, .ref a_this_highs, .ref a_this_rights, .ref a_this_terms, .ref a_this_costs, .ref a_this_froms, .ref a_this_tos, .int c_this_gone, .int c_this_plans, .ref a_this_planPoint, .ref a_this_planScore, .int c_this_front, .ref a_this_frontPlan, .ref a_this_frontTies, .int c_this_picks, .ref a_this_pick, .int c_this_hasClimbed, .ref a_this_end, .ref a_this_point, .ref a_this_score, .ref a_this_by, .ref a_this_four, .ref a_this_isNear, .ref a_this_number, .ref a_this_numbers, .ref a_this_place, .ref a_this_was])), (a_this_costs, .inl (cI, 32, .inl c_this_costs)), (a_this_froms, .inl (cI, 4, .inl c_this_froms)), (a_this_highs, .inl (cI, 8, .inl c_this_highs)), (a_this_lows, .inl (cI, 8, .inl c_this_lows)), (a_this_point, .inl (cI, 8, .inl c_this_point)), (a_this_rights, .inl (cI, 8, .inl c_this_rights)), (a_this_score, .inl (cI, 4, .inl c_this_score)), (a_this_terms, .inl (cI, 64, .inl c_this_terms)), (a_this_tos, .inl (cI, 4, .inl c_this_tos))] H locs → lv_has ls 5 [(0, .ref a_this), (1, .int v1_4), (2, .int v2_4)] → W p l e rm_X7_isPlan s m args below meth c H locs 0 0 Q (F0 m 4 ls []) := by
    intro n
    induction n with
    | zero => intro v1_4 v2_4 H locs ls hw; exact False.elim hw
    | succ n ih_4 =>
      intro v1_4 v2_4 H locs ls hw hG hl
      obtain ⟨w_4, hw_4, hw⟩ : ∃ w' : Int32 → Int32 → Prop, (∀ v1_4 v2_4, w' v1_4 v2_4 → Lp2 (b_X7_isPlan_4 c_this_columns c_this_highs c_this_lows c_this_point kx_4) n v1_4 v2_4) ∧ b_X7_isPlan_4 c_this_columns c_this_highs c_this_lows c_this_point kx_4 w' v1_4 v2_4 := ⟨_, fun _ _ h => h, hw⟩
      replace ih_4 : ∀ (v1_4 : Int32) (v2_4 : Int32) (H : Heap) (locs : List Loc) (ls : Array Slot), w_4 v1_4 v2_4 → HW (dC, dI) A s.heap [(a_this, .inr (6, [.int c_this_columns, .int c_this_rows, .int c_this_aims, .ref a_this_lows, .ref a_this_highs, .ref a_this_rights, .ref a_this_terms, .ref a_this_costs, .ref a_this_froms, .ref a_this_tos, .int c_this_gone, .int c_this_plans, .ref a_this_planPoint, .ref a_this_planScore, .int c_this_front, .ref a_this_frontPlan, .ref a_this_frontTies, .int c_this_picks, .ref a_this_pick, .int c_this_hasClimbed, .ref a_this_end, .ref a_this_point, .ref a_this_score, .ref a_this_by, .ref a_this_four, .ref a_this_isNear, .ref a_this_number, .ref a_this_numbers, .ref a_this_place, .ref a_this_was])), (a_this_costs, .inl (cI, 32, .inl c_this_costs)), (a_this_froms, .inl (cI, 4, .inl c_this_froms)), (a_this_highs, .inl (cI, 8, .inl c_this_highs)), (a_this_lows, .inl (cI, 8, .inl c_this_lows)), (a_this_point, .inl (cI, 8, .inl c_this_point)), (a_this_rights, .inl (cI, 8, .inl c_this_rights)), (a_this_score, .inl (cI, 4, .inl c_this_score)), (a_this_terms, .inl (cI, 64, .inl c_this_terms)), (a_this_tos, .inl (cI, 4, .inl c_this_tos))] H locs → lv_has ls 5 [(0, .ref a_this), (1, .int v1_4), (2, .int v2_4)] → W p l e rm_X7_isPlan s m args below meth c H locs 0 0 Q (F0 m 4 ls []) := fun v1_4 v2_4 H locs ls h => ih_4 v1_4 v2_4 H locs ls (hw_4 _ _ h)
      unfold b_X7_isPlan_4 at hw
      refine lv_iload_n K.1 K.2.1 dX7_isPlan_4 rfl (lv_at hl 2 rfl) ?_
      refine lv_aload_n K.1 K.2.1 dX7_isPlan_5 rfl (lv_at hl 0 rfl) ?_
      refine g_get (v := .int c_this_columns) K hG hin_RX7 0 rfl rfl 0 (by decide) (K.2.2.2.2.1 (.fieldLink RX7 78 "AimFrontsModel" "columns" "I") (by decide +kernel)) rfl rfl dX7_isPlan_6 ?_
      refine lv_icmp_ge (tgt := 55) K.1 K.2.1 dX7_isPlan_9 (by decide) (fun q_9 => ?_) (fun q_9 => ?_)
      · have hw := hw.1 q_9
        exact hX_4 v1_4 H locs ls hw hG (lv_sub hl [0, 1] rfl)
      · have hw := hw.2 q_9
        refine lv_iload_n K.1 K.2.1 dX7_isPlan_12 rfl (lv_at hl 1 rfl) ?_
        refine lv_if_eq (tgt := 47) K.1 K.2.1 dX7_isPlan_13 (by decide) (fun q_13 => ?_) (fun q_13 => ?_)
        · have hw := hw.1 q_13
          refine lv_iconst (v := 0) K.1 K.2.1 dX7_isPlan_47 (by decide) ?_
          refine lv_istore_n (lv' := [(1, .int (0 : Int32)), (0, .ref a_this), (2, .int v2_4)]) K.1 K.2.1 dX7_isPlan_48 rfl hl (by decide) rfl (fun ls hl => ?_)
          refine lv_iinc (v := (v2_4 + (1 : Int32))) (lv' := [(2, .int (v2_4 + (1 : Int32))), (1, .int (0 : Int32)), (0, .ref a_this)]) K.1 K.2.1 dX7_isPlan_49 hl (k := 2) rfl rfl (by decide) rfl (fun ls hl => ?_)
          refine lv_goto (tgt := 4) K.1 K.2.1 dX7_isPlan_52 (by decide) ?_
          exact ih_4 (0 : Int32) (v2_4 + (1 : Int32)) H locs ls hw hG (lv_sub hl [2, 1, 0] rfl)
        · have hw := hw.2 q_13
          refine lv_aload_n K.1 K.2.1 dX7_isPlan_16 rfl (lv_at hl 0 rfl) ?_
          refine g_get (v := .ref a_this_point) K hG hin_RX7 0 rfl rfl 21 (by decide) (K.2.2.2.2.1 (.fieldLink RX7 49 "AimFrontsModel" "point" "[I") (by decide +kernel)) rfl rfl dX7_isPlan_17 ?_
          refine lv_iload_n K.1 K.2.1 dX7_isPlan_20 rfl (lv_at hl 2 rfl) ?_
          obtain ⟨h_21, hw⟩ := hw
          refine g_iald K hG 5 rfl h_21 dX7_isPlan_21 ?_
          refine lv_i2l K.1 K.2.1 dX7_isPlan_22 rfl ?_
          refine lv_aload_n K.1 K.2.1 dX7_isPlan_23 rfl (lv_at hl 0 rfl) ?_
          refine g_get (v := .ref a_this_lows) K hG hin_RX7 0 rfl rfl 3 (by decide) (K.2.2.2.2.1 (.fieldLink RX7 7 "AimFrontsModel" "lows" "[I") (by decide +kernel)) rfl rfl dX7_isPlan_24 ?_
          refine lv_iload_n K.1 K.2.1 dX7_isPlan_27 rfl (lv_at hl 2 rfl) ?_
          obtain ⟨h_28, hw⟩ := hw
          refine g_iald K hG 4 rfl h_28 dX7_isPlan_28 ?_
          refine lv_i2l K.1 K.2.1 dX7_isPlan_29 rfl ?_
          refine lv_aload_n K.1 K.2.1 dX7_isPlan_30 rfl (lv_at hl 0 rfl) ?_
          refine g_get (v := .ref a_this_highs) K hG hin_RX7 0 rfl rfl 4 (by decide) (K.2.2.2.2.1 (.fieldLink RX7 13 "AimFrontsModel" "highs" "[I") (by decide +kernel)) rfl rfl dX7_isPlan_31 ?_
          refine lv_iload_n K.1 K.2.1 dX7_isPlan_34 rfl (lv_at hl 2 rfl) ?_
          obtain ⟨h_35, hw⟩ := hw
          refine g_iald K hG 3 rfl h_35 dX7_isPlan_35 ?_
          refine lv_i2l K.1 K.2.1 dX7_isPlan_36 rfl ?_
          refine g_ri K hG [] rfl (g_runS (As := [.long (((c_this_point (v2_4).toNatClampNeg)).toInt64), .long (((c_this_lows (v2_4).toNatClampNeg)).toInt64), .long (((c_this_highs (v2_4).toNatClampNeg)).toInt64)]) (rest := []) K hG hl [] rfl rfl (k_X7_in l dC dI cI cJ cZ cG H.size (((c_this_point (v2_4).toNatClampNeg)).toInt64) (((c_this_lows (v2_4).toNatClampNeg)).toInt64) (((c_this_highs (v2_4).toNatClampNeg)).toInt64) _ hw) (va_cwS 3 K.2.2.2.2.1 gX7_isPlan_X7_in rfl rfl rfl (by decide +kernel) ⟨by decide, by decide⟩) rfl rfl (Nat.le_of_ble_eq_true rfl) ⟨Nat.zero_le _, Nat.zero_le _⟩ dX7_isPlan_37) (fun r_37 H locs hw hG => ?_)
          refine lv_if_eq (tgt := 47) K.1 K.2.1 dX7_isPlan_40 (by decide) (fun q_40 => ?_) (fun q_40 => ?_)
          · have hw := hw.1 q_40
            refine lv_iconst (v := 0) K.1 K.2.1 dX7_isPlan_47 (by decide) ?_
            refine lv_istore_n (lv' := [(1, .int (0 : Int32)), (0, .ref a_this), (2, .int v2_4)]) K.1 K.2.1 dX7_isPlan_48 rfl hl (by decide) rfl (fun ls hl => ?_)
            refine lv_iinc (v := (v2_4 + (1 : Int32))) (lv' := [(2, .int (v2_4 + (1 : Int32))), (1, .int (0 : Int32)), (0, .ref a_this)]) K.1 K.2.1 dX7_isPlan_49 hl (k := 2) rfl rfl (by decide) rfl (fun ls hl => ?_)
            refine lv_goto (tgt := 4) K.1 K.2.1 dX7_isPlan_52 (by decide) ?_
            exact ih_4 (0 : Int32) (v2_4 + (1 : Int32)) H locs ls hw hG (lv_sub hl [2, 1, 0] rfl)
          · have hw := hw.2 q_40
            refine lv_iconst (v := 1) K.1 K.2.1 dX7_isPlan_43 (by decide) ?_
            refine lv_goto (tgt := 48) K.1 K.2.1 dX7_isPlan_44 (by decide) ?_
            refine lv_istore_n (lv' := [(1, .int (1 : Int32)), (0, .ref a_this), (2, .int v2_4)]) K.1 K.2.1 dX7_isPlan_48 rfl hl (by decide) rfl (fun ls hl => ?_)
            refine lv_iinc (v := (v2_4 + (1 : Int32))) (lv' := [(2, .int (v2_4 + (1 : Int32))), (1, .int (1 : Int32)), (0, .ref a_this)]) K.1 K.2.1 dX7_isPlan_49 hl (k := 2) rfl rfl (by decide) rfl (fun ls hl => ?_)
            refine lv_goto (tgt := 4) K.1 K.2.1 dX7_isPlan_52 (by decide) ?_
            exact ih_4 (1 : Int32) (v2_4 + (1 : Int32)) H locs ls hw hG (lv_sub hl [2, 1, 0] rfl)
  exact hL_4 n_4 (1 : Int32) (0 : Int32) H locs ls hw hG (lv_sub hl [2, 1, 0] rfl)
abbrev rm_X7_of : Room := { frames := 0, cells := 0, slots := 0, locals := 0 }
set_option maxHeartbeats 4000000 in
set_option maxRecDepth 100000 in
theorem k_X7_of (l : Launch) (dC : Nat → ClassId) (dI : Nat → Nat → Nat) (cI cJ cZ cG : ClassId) (sz : Nat) (a_this a_this_lows a_this_highs a_this_rights a_this_terms a_this_costs a_this_froms a_this_tos a_this_planPoint a_this_planScore a_this_frontPlan a_this_frontTies a_this_pick a_this_end a_this_point a_this_score a_this_by a_this_four a_this_isNear a_this_number a_this_numbers a_this_place a_this_was : Nat) (c_this_aims : Int32) (c_this_columns : Int32) (c_this_front : Int32) (c_this_gone : Int32) (c_this_hasClimbed : Int32) (c_this_picks : Int32) (c_this_planScore : Nat → Int32) (c_this_plans : Int32) (c_this_rows : Int32) (x1 : Int32) (x2 : Int32) (post : Int32 → Prop) (hw : wp_X7_of c_this_planScore x1 x2 post) : MetI l yX7_of wsX7_of rm_X7_of (dC, dI) cI cJ cZ cG [.ref a_this, .int x1, .int x2] sz [(a_this, .inr (6, [.int c_this_columns, .int c_this_rows, .int c_this_aims, .ref a_this_lows, .ref a_this_highs, .ref a_this_rights, .ref a_this_terms, .ref a_this_costs, .ref a_this_froms, .ref a_this_tos, .int c_this_gone, .int c_this_plans, .ref a_this_planPoint, .ref a_this_planScore, .int c_this_front, .ref a_this_frontPlan, .ref a_this_frontTies, .int c_this_picks, .ref a_this_pick, .int c_this_hasClimbed, .ref a_this_end, .ref a_this_point, .ref a_this_score, .ref a_this_by, .ref a_this_four, .ref a_this_isNear, .ref a_this_number, .ref a_this_numbers, .ref a_this_place, .ref a_this_was])), (a_this_planScore, .inl (cI, 8000, .inl c_this_planScore))] (fun (r : Int32) (u : Unit) => post r) (fun u => [(a_this, .inr (6, [.int c_this_columns, .int c_this_rows, .int c_this_aims, .ref a_this_lows, .ref a_this_highs, .ref a_this_rights, .ref a_this_terms, .ref a_this_costs, .ref a_this_froms, .ref a_this_tos, .int c_this_gone, .int c_this_plans, .ref a_this_planPoint, .ref a_this_planScore, .int c_this_front, .ref a_this_frontPlan, .ref a_this_frontTies, .int c_this_picks, .ref a_this_pick, .int c_this_hasClimbed, .ref a_this_end, .ref a_this_point, .ref a_this_score, .ref a_this_by, .ref a_this_four, .ref a_this_isNear, .ref a_this_number, .ref a_this_numbers, .ref a_this_place, .ref a_this_was])), (a_this_planScore, .inl (cI, 8000, .inl c_this_planScore))]) := by
  refine met_i (ty := .int) (Or.inl rfl) (cc := cX7_of) (maxL := 3) (by decide) rfl (Nat.le_of_ble_eq_true rfl) ?_
  intro p e s m args below meth c A Q H locs ls K hG hl hret
  have hl : lv_has ls 3 [(0, .ref a_this), (1, .int x1), (2, .int x2)] := hl
  have hin_RX7 : ∀ w ∈ u_ws RX7 TX7 30, w ∈ wsX7_of := by decide +kernel
  unfold wp_X7_of at hw
  refine lv_aload_n K.1 K.2.1 dX7_of_0 rfl (lv_at hl 0 rfl) ?_
  refine g_get (v := .ref a_this_planScore) K hG hin_RX7 0 rfl rfl 13 (by decide) (K.2.2.2.2.1 (.fieldLink RX7 34 "AimFrontsModel" "planScore" "[I") (by decide +kernel)) rfl rfl dX7_of_1 ?_
  refine lv_iconst (v := 4) K.1 K.2.1 dX7_of_4 (by decide) ?_
  refine lv_iload_n K.1 K.2.1 dX7_of_5 rfl (lv_at hl 1 rfl) ?_
  refine lv_imul K.1 K.2.1 dX7_of_6 ?_
  refine lv_iload_n K.1 K.2.1 dX7_of_7 rfl (lv_at hl 2 rfl) ?_
  refine lv_iadd K.1 K.2.1 dX7_of_8 ?_
  obtain ⟨h_9, hw⟩ := hw
  refine g_iald K hG 1 rfl h_9 dX7_of_9 ?_
  exact hret (c_this_planScore ((((4 : Int32) * x1) + x2)).toNatClampNeg) () H locs _ ls dX7_of_10 rfl hw hG
abbrev rm_X7_beats : Room := { frames := 1, cells := 0, slots := 0, locals := 22 }
set_option maxHeartbeats 4000000 in
set_option maxRecDepth 100000 in
theorem k_X7_beats (l : Launch) (dC : Nat → ClassId) (dI : Nat → Nat → Nat) (cI cJ cZ cG : ClassId) (sz : Nat) (a_this a_this_lows a_this_highs a_this_rights a_this_terms a_this_costs a_this_froms a_this_tos a_this_planPoint a_this_planScore a_this_frontPlan a_this_frontTies a_this_pick a_this_end a_this_point a_this_score a_this_by a_this_four a_this_isNear a_this_number a_this_numbers a_this_place a_this_was : Nat) (c_this_aims : Int32) (c_this_columns : Int32) (c_this_front : Int32) (c_this_gone : Int32) (c_this_hasClimbed : Int32) (c_this_picks : Int32) (c_this_planScore : Nat → Int32) (c_this_plans : Int32) (c_this_rows : Int32) (x1 : Int32) (x2 : Int32) (post : Int32 → Prop) (hw : wp_X7_beats c_this_aims c_this_planScore x1 x2 post) : MetI l yX7_beats wsX7_beats rm_X7_beats (dC, dI) cI cJ cZ cG [.ref a_this, .int x1, .int x2] sz [(a_this, .inr (6, [.int c_this_columns, .int c_this_rows, .int c_this_aims, .ref a_this_lows, .ref a_this_highs, .ref a_this_rights, .ref a_this_terms, .ref a_this_costs, .ref a_this_froms, .ref a_this_tos, .int c_this_gone, .int c_this_plans, .ref a_this_planPoint, .ref a_this_planScore, .int c_this_front, .ref a_this_frontPlan, .ref a_this_frontTies, .int c_this_picks, .ref a_this_pick, .int c_this_hasClimbed, .ref a_this_end, .ref a_this_point, .ref a_this_score, .ref a_this_by, .ref a_this_four, .ref a_this_isNear, .ref a_this_number, .ref a_this_numbers, .ref a_this_place, .ref a_this_was])), (a_this_planScore, .inl (cI, 8000, .inl c_this_planScore))] (fun (r : Int32) (u : Unit) => post r) (fun u => [(a_this, .inr (6, [.int c_this_columns, .int c_this_rows, .int c_this_aims, .ref a_this_lows, .ref a_this_highs, .ref a_this_rights, .ref a_this_terms, .ref a_this_costs, .ref a_this_froms, .ref a_this_tos, .int c_this_gone, .int c_this_plans, .ref a_this_planPoint, .ref a_this_planScore, .int c_this_front, .ref a_this_frontPlan, .ref a_this_frontTies, .int c_this_picks, .ref a_this_pick, .int c_this_hasClimbed, .ref a_this_end, .ref a_this_point, .ref a_this_score, .ref a_this_by, .ref a_this_four, .ref a_this_isNear, .ref a_this_number, .ref a_this_numbers, .ref a_this_place, .ref a_this_was])), (a_this_planScore, .inl (cI, 8000, .inl c_this_planScore))]) := by
  refine met_i (ty := .boolean) (Or.inr rfl) (cc := cX7_beats) (maxL := 5) (by decide) rfl (Nat.le_of_ble_eq_true rfl) ?_
  intro p e s m args below meth c A Q H locs ls K hG hl hret
  have hl : lv_has ls 5 [(0, .ref a_this), (1, .int x1), (2, .int x2)] := hl
  have hin_RX7 : ∀ w ∈ u_ws RX7 TX7 30, w ∈ wsX7_beats := by decide +kernel
  unfold wp_X7_beats at hw
  refine lv_iconst (v := 0) K.1 K.2.1 dX7_beats_0 (by decide) ?_
  refine lv_istore_n (lv' := [(3, .int (0 : Int32)), (0, .ref a_this), (1, .int x1), (2, .int x2)]) K.1 K.2.1 dX7_beats_1 rfl hl (by decide) rfl (fun ls hl => ?_)
  refine lv_iconst (v := 0) K.1 K.2.1 dX7_beats_2 (by decide) ?_
  refine lv_istore (lv' := [(4, .int (0 : Int32)), (3, .int (0 : Int32)), (0, .ref a_this), (1, .int x1), (2, .int x2)]) K.1 K.2.1 dX7_beats_3 hl (by decide) rfl (fun ls hl => ?_)
  obtain ⟨kx_5, hkx_5, n_5, hw⟩ := Lx1_2_abs hw
  have hX_5 : ∀ (v3_5e : Int32) (H : Heap) (locs : List Loc) (ls : Array Slot), kx_5 v3_5e → HW (dC, dI) A s.heap [(a_this, .inr (6, [.int c_this_columns, .int c_this_rows, .int c_this_aims, .ref a_this_lows, .ref a_this_highs, .ref a_this_rights, .ref a_this_terms, .ref a_this_costs, .ref a_this_froms, .ref a_this_tos, .int c_this_gone, .int c_this_plans, .ref a_this_planPoint, .ref a_this_planScore, .int c_this_front, .ref a_this_frontPlan, .ref a_this_frontTies, .int c_this_picks, .ref a_this_pick, .int c_this_hasClimbed, .ref a_this_end, .ref a_this_point, .ref a_this_score, .ref a_this_by, .ref a_this_four, .ref a_this_isNear, .ref a_this_number, .ref a_this_numbers, .ref a_this_place, .ref a_this_was])), (a_this_planScore, .inl (cI, 8000, .inl c_this_planScore))] H locs → lv_has ls 5 [(3, .int v3_5e)] → W p l e rm_X7_beats s m args below meth c H locs 0 0 Q (F0 m 66 ls []) := by
    intro v3_5e H locs ls hw hG hl
    have hw := hkx_5 _ hw
    refine lv_iload_n K.1 K.2.1 dX7_beats_66 rfl (lv_at hl 0 rfl) ?_
    exact hret v3_5e () H locs _ ls dX7_beats_67 hw.1 hw.2 hG
  have hL_5 : ∀ (n : Nat), ∀ (v3_5 : Int32) (v4_5 : Int32) (H : Heap) (locs : List Loc) (ls : Array Slot), Lp2 (b_X7_beats_5 c_this_aims c_this_planScore x1 x2 post kx_5) n v3_5 v4_5 → HW (dC, dI) A s.heap [(a_this, .inr (6, [.int c_this_columns, .int c_this_rows, .int c_this_aims, .ref a_this_lows, .ref a_this_highs, .ref a_this_rights, .ref a_this_terms, .ref a_this_costs, .ref a_this_froms, .ref a_this_tos, .int c_this_gone, .int c_this_plans, .ref a_this_planPoint, .ref a_this_planScore, .int c_this_front, .ref a_this_frontPlan, .ref a_this_frontTies, .int c_this_picks, .ref a_this_pick, .int c_this_hasClimbed, .ref a_this_end, .ref a_this_point, .ref a_this_score, .ref a_this_by, .ref a_this_four, .ref a_this_isNear, .ref a_this_number, .ref a_this_numbers, .ref a_this_place, .ref a_this_was])), (a_this_planScore, .inl (cI, 8000, .inl c_this_planScore))] H locs → lv_has ls 5 [(0, .ref a_this), (1, .int x1), (2, .int x2), (3, .int v3_5), (4, .int v4_5)] → W p l e rm_X7_beats s m args below meth c H locs 0 0 Q (F0 m 5 ls []) := by
    intro n
    induction n with
    | zero => intro v3_5 v4_5 H locs ls hw; exact False.elim hw
    | succ n ih_5 =>
      intro v3_5 v4_5 H locs ls hw hG hl
      obtain ⟨w_5, hw_5, hw⟩ : ∃ w' : Int32 → Int32 → Prop, (∀ v3_5 v4_5, w' v3_5 v4_5 → Lp2 (b_X7_beats_5 c_this_aims c_this_planScore x1 x2 post kx_5) n v3_5 v4_5) ∧ b_X7_beats_5 c_this_aims c_this_planScore x1 x2 post kx_5 w' v3_5 v4_5 := ⟨_, fun _ _ h => h, hw⟩
      replace ih_5 : ∀ (v3_5 : Int32) (v4_5 : Int32) (H : Heap) (locs : List Loc) (ls : Array Slot), w_5 v3_5 v4_5 → HW (dC, dI) A s.heap [(a_this, .inr (6, [.int c_this_columns, .int c_this_rows, .int c_this_aims, .ref a_this_lows, .ref a_this_highs, .ref a_this_rights, .ref a_this_terms, .ref a_this_costs, .ref a_this_froms, .ref a_this_tos, .int c_this_gone, .int c_this_plans, .ref a_this_planPoint, .ref a_this_planScore, .int c_this_front, .ref a_this_frontPlan, .ref a_this_frontTies, .int c_this_picks, .ref a_this_pick, .int c_this_hasClimbed, .ref a_this_end, .ref a_this_point, .ref a_this_score, .ref a_this_by, .ref a_this_four, .ref a_this_isNear, .ref a_this_number, .ref a_this_numbers, .ref a_this_place, .ref a_this_was])), (a_this_planScore, .inl (cI, 8000, .inl c_this_planScore))] H locs → lv_has ls 5 [(0, .ref a_this), (1, .int x1), (2, .int x2), (3, .int v3_5), (4, .int v4_5)] → W p l e rm_X7_beats s m args below meth c H locs 0 0 Q (F0 m 5 ls []) := fun v3_5 v4_5 H locs ls h => ih_5 v3_5 v4_5 H locs ls (hw_5 _ _ h)
      unfold b_X7_beats_5 at hw
      refine lv_iload K.1 K.2.1 dX7_beats_5 (lv_at hl 4 rfl) ?_
      refine lv_aload_n K.1 K.2.1 dX7_beats_7 rfl (lv_at hl 0 rfl) ?_
      refine g_get (v := .int c_this_aims) K hG hin_RX7 0 rfl rfl 2 (by decide) (K.2.2.2.2.1 (.fieldLink RX7 89 "AimFrontsModel" "aims" "I") (by decide +kernel)) rfl rfl dX7_beats_8 ?_
      refine lv_icmp_ge (tgt := 66) K.1 K.2.1 dX7_beats_11 (by decide) (fun q_11 => ?_) (fun q_11 => ?_)
      · have hw := hw.1 q_11
        exact hX_5 v3_5 H locs ls hw hG (lv_sub hl [3] rfl)
      · have hw := hw.2 q_11
        refine lv_aload_n K.1 K.2.1 dX7_beats_14 rfl (lv_at hl 0 rfl) ?_
        refine lv_iload_n K.1 K.2.1 dX7_beats_15 rfl (lv_at hl 1 rfl) ?_
        refine lv_iload K.1 K.2.1 dX7_beats_16 (lv_at hl 4 rfl) ?_
        refine g_ri K hG [0, 1] rfl (g_runV (As := [.int x1, .int v4_5]) (rest := []) K hG hl [0, 1] rfl rfl 0 rfl rfl (k_X7_of l dC dI cI cJ cZ cG H.size a_this a_this_lows a_this_highs a_this_rights a_this_terms a_this_costs a_this_froms a_this_tos a_this_planPoint a_this_planScore a_this_frontPlan a_this_frontTies a_this_pick a_this_end a_this_point a_this_score a_this_by a_this_four a_this_isNear a_this_number a_this_numbers a_this_place a_this_was c_this_aims c_this_columns c_this_front c_this_gone c_this_hasClimbed c_this_picks c_this_planScore c_this_plans c_this_rows x1 v4_5 _ hw) (cwV 2 K.2.2.2.2.1 gX7_beats_X7_of rfl rfl rfl (by decide +kernel) ⟨by decide, by decide⟩) rfl rfl (Nat.le_of_ble_eq_true rfl) ⟨Nat.zero_le _, Nat.zero_le _⟩ dX7_beats_18) (fun r_18 H locs hw hG => ?_)
        refine lv_aload_n K.1 K.2.1 dX7_beats_21 rfl (lv_at hl 0 rfl) ?_
        refine lv_iload_n K.1 K.2.1 dX7_beats_22 rfl (lv_at hl 2 rfl) ?_
        refine lv_iload K.1 K.2.1 dX7_beats_23 (lv_at hl 4 rfl) ?_
        refine g_ri K hG [0, 1] rfl (g_runV (As := [.int x2, .int v4_5]) (rest := [.int r_18]) K hG hl [0, 1] rfl rfl 0 rfl rfl (k_X7_of l dC dI cI cJ cZ cG H.size a_this a_this_lows a_this_highs a_this_rights a_this_terms a_this_costs a_this_froms a_this_tos a_this_planPoint a_this_planScore a_this_frontPlan a_this_frontTies a_this_pick a_this_end a_this_point a_this_score a_this_by a_this_four a_this_isNear a_this_number a_this_numbers a_this_place a_this_was c_this_aims c_this_columns c_this_front c_this_gone c_this_hasClimbed c_this_picks c_this_planScore c_this_plans c_this_rows x2 v4_5 _ hw) (cwV 2 K.2.2.2.2.1 gX7_beats_X7_of rfl rfl rfl (by decide +kernel) ⟨by decide, by decide⟩) rfl rfl (Nat.le_of_ble_eq_true rfl) ⟨Nat.zero_le _, Nat.zero_le _⟩ dX7_beats_25) (fun r_25 H locs hw hG => ?_)
        refine lv_icmp_le (tgt := 33) K.1 K.2.1 dX7_beats_28 (by decide) (fun q_28 => ?_) (fun q_28 => ?_)
        · have hw := hw.1 q_28
          refine lv_iload_n K.1 K.2.1 dX7_beats_33 rfl (lv_at hl 3 rfl) ?_
          refine lv_if_ne (tgt := 54) K.1 K.2.1 dX7_beats_34 (by decide) (fun q_34 => ?_) (fun q_34 => ?_)
          · have hw := hw.2 q_34
            refine lv_iconst (v := 1) K.1 K.2.1 dX7_beats_54 (by decide) ?_
            refine lv_goto (tgt := 59) K.1 K.2.1 dX7_beats_55 (by decide) ?_
            refine lv_istore_n (lv' := [(3, .int (1 : Int32)), (0, .ref a_this), (1, .int x1), (2, .int x2), (4, .int v4_5)]) K.1 K.2.1 dX7_beats_59 rfl hl (by decide) rfl (fun ls hl => ?_)
            refine lv_iinc (v := (v4_5 + (1 : Int32))) (lv' := [(4, .int (v4_5 + (1 : Int32))), (3, .int (1 : Int32)), (0, .ref a_this), (1, .int x1), (2, .int x2)]) K.1 K.2.1 dX7_beats_60 hl (k := 4) rfl rfl (by decide) rfl (fun ls hl => ?_)
            refine lv_goto (tgt := 5) K.1 K.2.1 dX7_beats_63 (by decide) ?_
            exact ih_5 (1 : Int32) (v4_5 + (1 : Int32)) H locs ls hw hG (lv_sub hl [2, 3, 4, 1, 0] rfl)
          · have hw := hw.1 q_34
            refine lv_aload_n K.1 K.2.1 dX7_beats_37 rfl (lv_at hl 0 rfl) ?_
            refine lv_iload_n K.1 K.2.1 dX7_beats_38 rfl (lv_at hl 1 rfl) ?_
            refine lv_iload K.1 K.2.1 dX7_beats_39 (lv_at hl 4 rfl) ?_
            refine g_ri K hG [0, 1] rfl (g_runV (As := [.int x1, .int v4_5]) (rest := []) K hG hl [0, 1] rfl rfl 0 rfl rfl (k_X7_of l dC dI cI cJ cZ cG H.size a_this a_this_lows a_this_highs a_this_rights a_this_terms a_this_costs a_this_froms a_this_tos a_this_planPoint a_this_planScore a_this_frontPlan a_this_frontTies a_this_pick a_this_end a_this_point a_this_score a_this_by a_this_four a_this_isNear a_this_number a_this_numbers a_this_place a_this_was c_this_aims c_this_columns c_this_front c_this_gone c_this_hasClimbed c_this_picks c_this_planScore c_this_plans c_this_rows x1 v4_5 _ hw) (cwV 2 K.2.2.2.2.1 gX7_beats_X7_of rfl rfl rfl (by decide +kernel) ⟨by decide, by decide⟩) rfl rfl (Nat.le_of_ble_eq_true rfl) ⟨Nat.zero_le _, Nat.zero_le _⟩ dX7_beats_41) (fun r_41 H locs hw hG => ?_)
            refine lv_aload_n K.1 K.2.1 dX7_beats_44 rfl (lv_at hl 0 rfl) ?_
            refine lv_iload_n K.1 K.2.1 dX7_beats_45 rfl (lv_at hl 2 rfl) ?_
            refine lv_iload K.1 K.2.1 dX7_beats_46 (lv_at hl 4 rfl) ?_
            refine g_ri K hG [0, 1] rfl (g_runV (As := [.int x2, .int v4_5]) (rest := [.int r_41]) K hG hl [0, 1] rfl rfl 0 rfl rfl (k_X7_of l dC dI cI cJ cZ cG H.size a_this a_this_lows a_this_highs a_this_rights a_this_terms a_this_costs a_this_froms a_this_tos a_this_planPoint a_this_planScore a_this_frontPlan a_this_frontTies a_this_pick a_this_end a_this_point a_this_score a_this_by a_this_four a_this_isNear a_this_number a_this_numbers a_this_place a_this_was c_this_aims c_this_columns c_this_front c_this_gone c_this_hasClimbed c_this_picks c_this_planScore c_this_plans c_this_rows x2 v4_5 _ hw) (cwV 2 K.2.2.2.2.1 gX7_beats_X7_of rfl rfl rfl (by decide +kernel) ⟨by decide, by decide⟩) rfl rfl (Nat.le_of_ble_eq_true rfl) ⟨Nat.zero_le _, Nat.zero_le _⟩ dX7_beats_48) (fun r_48 H locs hw hG => ?_)
            refine lv_icmp_ge (tgt := 58) K.1 K.2.1 dX7_beats_51 (by decide) (fun q_51 => ?_) (fun q_51 => ?_)
            · have hw := hw.1 q_51
              refine lv_iconst (v := 0) K.1 K.2.1 dX7_beats_58 (by decide) ?_
              refine lv_istore_n (lv' := [(3, .int (0 : Int32)), (0, .ref a_this), (1, .int x1), (2, .int x2), (4, .int v4_5)]) K.1 K.2.1 dX7_beats_59 rfl hl (by decide) rfl (fun ls hl => ?_)
              refine lv_iinc (v := (v4_5 + (1 : Int32))) (lv' := [(4, .int (v4_5 + (1 : Int32))), (3, .int (0 : Int32)), (0, .ref a_this), (1, .int x1), (2, .int x2)]) K.1 K.2.1 dX7_beats_60 hl (k := 4) rfl rfl (by decide) rfl (fun ls hl => ?_)
              refine lv_goto (tgt := 5) K.1 K.2.1 dX7_beats_63 (by decide) ?_
              exact ih_5 (0 : Int32) (v4_5 + (1 : Int32)) H locs ls hw hG (lv_sub hl [2, 3, 4, 1, 0] rfl)
            · have hw := hw.2 q_51
              refine lv_iconst (v := 1) K.1 K.2.1 dX7_beats_54 (by decide) ?_
              refine lv_goto (tgt := 59) K.1 K.2.1 dX7_beats_55 (by decide) ?_
              refine lv_istore_n (lv' := [(3, .int (1 : Int32)), (0, .ref a_this), (1, .int x1), (2, .int x2), (4, .int v4_5)]) K.1 K.2.1 dX7_beats_59 rfl hl (by decide) rfl (fun ls hl => ?_)
              refine lv_iinc (v := (v4_5 + (1 : Int32))) (lv' := [(4, .int (v4_5 + (1 : Int32))), (3, .int (1 : Int32)), (0, .ref a_this), (1, .int x1), (2, .int x2)]) K.1 K.2.1 dX7_beats_60 hl (k := 4) rfl rfl (by decide) rfl (fun ls hl => ?_)
              refine lv_goto (tgt := 5) K.1 K.2.1 dX7_beats_63 (by decide) ?_
              exact ih_5 (1 : Int32) (v4_5 + (1 : Int32)) H locs ls hw hG (lv_sub hl [2, 3, 4, 1, 0] rfl)
        · have hw := hw.2 q_28
          refine lv_iconst (v := 0) K.1 K.2.1 dX7_beats_31 (by decide) ?_
          exact hret (0 : Int32) () H locs _ ls dX7_beats_32 rfl hw hG
  exact hL_5 n_5 (0 : Int32) (0 : Int32) H locs ls hw hG (lv_sub hl [2, 3, 4, 1, 0] rfl)
abbrev rm_X7_alike : Room := { frames := 1, cells := 0, slots := 0, locals := 22 }
set_option maxHeartbeats 4000000 in
set_option maxRecDepth 100000 in
theorem k_X7_alike (l : Launch) (dC : Nat → ClassId) (dI : Nat → Nat → Nat) (cI cJ cZ cG : ClassId) (sz : Nat) (a_this a_this_lows a_this_highs a_this_rights a_this_terms a_this_costs a_this_froms a_this_tos a_this_planPoint a_this_planScore a_this_frontPlan a_this_frontTies a_this_pick a_this_end a_this_point a_this_score a_this_by a_this_four a_this_isNear a_this_number a_this_numbers a_this_place a_this_was : Nat) (c_this_aims : Int32) (c_this_columns : Int32) (c_this_front : Int32) (c_this_gone : Int32) (c_this_hasClimbed : Int32) (c_this_picks : Int32) (c_this_planScore : Nat → Int32) (c_this_plans : Int32) (c_this_rows : Int32) (x1 : Int32) (x2 : Int32) (post : Int32 → Prop) (hw : wp_X7_alike c_this_aims c_this_planScore x1 x2 post) : MetI l yX7_alike wsX7_alike rm_X7_alike (dC, dI) cI cJ cZ cG [.ref a_this, .int x1, .int x2] sz [(a_this, .inr (6, [.int c_this_columns, .int c_this_rows, .int c_this_aims, .ref a_this_lows, .ref a_this_highs, .ref a_this_rights, .ref a_this_terms, .ref a_this_costs, .ref a_this_froms, .ref a_this_tos, .int c_this_gone, .int c_this_plans, .ref a_this_planPoint, .ref a_this_planScore, .int c_this_front, .ref a_this_frontPlan, .ref a_this_frontTies, .int c_this_picks, .ref a_this_pick, .int c_this_hasClimbed, .ref a_this_end, .ref a_this_point, .ref a_this_score, .ref a_this_by, .ref a_this_four, .ref a_this_isNear, .ref a_this_number, .ref a_this_numbers, .ref a_this_place, .ref a_this_was])), (a_this_planScore, .inl (cI, 8000, .inl c_this_planScore))] (fun (r : Int32) (u : Unit) => post r) (fun u => [(a_this, .inr (6, [.int c_this_columns, .int c_this_rows, .int c_this_aims, .ref a_this_lows, .ref a_this_highs, .ref a_this_rights, .ref a_this_terms, .ref a_this_costs, .ref a_this_froms, .ref a_this_tos, .int c_this_gone, .int c_this_plans, .ref a_this_planPoint, .ref a_this_planScore, .int c_this_front, .ref a_this_frontPlan, .ref a_this_frontTies, .int c_this_picks, .ref a_this_pick, .int c_this_hasClimbed, .ref a_this_end, .ref a_this_point, .ref a_this_score, .ref a_this_by, .ref a_this_four, .ref a_this_isNear, .ref a_this_number, .ref a_this_numbers, .ref a_this_place, .ref a_this_was])), (a_this_planScore, .inl (cI, 8000, .inl c_this_planScore))]) := by
  refine met_i (ty := .boolean) (Or.inr rfl) (cc := cX7_alike) (maxL := 5) (by decide) rfl (Nat.le_of_ble_eq_true rfl) ?_
  intro p e s m args below meth c A Q H locs ls K hG hl hret
  have hl : lv_has ls 5 [(0, .ref a_this), (1, .int x1), (2, .int x2)] := hl
  have hin_RX7 : ∀ w ∈ u_ws RX7 TX7 30, w ∈ wsX7_alike := by decide +kernel
  unfold wp_X7_alike at hw
  refine lv_iconst (v := 1) K.1 K.2.1 dX7_alike_0 (by decide) ?_
  refine lv_istore_n (lv' := [(3, .int (1 : Int32)), (0, .ref a_this), (1, .int x1), (2, .int x2)]) K.1 K.2.1 dX7_alike_1 rfl hl (by decide) rfl (fun ls hl => ?_)
  refine lv_iconst (v := 0) K.1 K.2.1 dX7_alike_2 (by decide) ?_
  refine lv_istore (lv' := [(4, .int (0 : Int32)), (3, .int (1 : Int32)), (0, .ref a_this), (1, .int x1), (2, .int x2)]) K.1 K.2.1 dX7_alike_3 hl (by decide) rfl (fun ls hl => ?_)
  obtain ⟨kx_5, hkx_5, n_5, hw⟩ := Lx1_2_abs hw
  have hX_5 : ∀ (v3_5e : Int32) (H : Heap) (locs : List Loc) (ls : Array Slot), kx_5 v3_5e → HW (dC, dI) A s.heap [(a_this, .inr (6, [.int c_this_columns, .int c_this_rows, .int c_this_aims, .ref a_this_lows, .ref a_this_highs, .ref a_this_rights, .ref a_this_terms, .ref a_this_costs, .ref a_this_froms, .ref a_this_tos, .int c_this_gone, .int c_this_plans, .ref a_this_planPoint, .ref a_this_planScore, .int c_this_front, .ref a_this_frontPlan, .ref a_this_frontTies, .int c_this_picks, .ref a_this_pick, .int c_this_hasClimbed, .ref a_this_end, .ref a_this_point, .ref a_this_score, .ref a_this_by, .ref a_this_four, .ref a_this_isNear, .ref a_this_number, .ref a_this_numbers, .ref a_this_place, .ref a_this_was])), (a_this_planScore, .inl (cI, 8000, .inl c_this_planScore))] H locs → lv_has ls 5 [(3, .int v3_5e)] → W p l e rm_X7_alike s m args below meth c H locs 0 0 Q (F0 m 47 ls []) := by
    intro v3_5e H locs ls hw hG hl
    have hw := hkx_5 _ hw
    refine lv_iload_n K.1 K.2.1 dX7_alike_47 rfl (lv_at hl 0 rfl) ?_
    exact hret v3_5e () H locs _ ls dX7_alike_48 hw.1 hw.2 hG
  have hL_5 : ∀ (n : Nat), ∀ (v3_5 : Int32) (v4_5 : Int32) (H : Heap) (locs : List Loc) (ls : Array Slot), Lp2 (b_X7_alike_5 c_this_aims c_this_planScore x1 x2 kx_5) n v3_5 v4_5 → HW (dC, dI) A s.heap [(a_this, .inr (6, [.int c_this_columns, .int c_this_rows, .int c_this_aims, .ref a_this_lows, .ref a_this_highs, .ref a_this_rights, .ref a_this_terms, .ref a_this_costs, .ref a_this_froms, .ref a_this_tos, .int c_this_gone, .int c_this_plans, .ref a_this_planPoint, .ref a_this_planScore, .int c_this_front, .ref a_this_frontPlan, .ref a_this_frontTies, .int c_this_picks, .ref a_this_pick, .int c_this_hasClimbed, .ref a_this_end, .ref a_this_point, .ref a_this_score, .ref a_this_by, .ref a_this_four, .ref a_this_isNear, .ref a_this_number, .ref a_this_numbers, .ref a_this_place, .ref a_this_was])), (a_this_planScore, .inl (cI, 8000, .inl c_this_planScore))] H locs → lv_has ls 5 [(0, .ref a_this), (1, .int x1), (2, .int x2), (3, .int v3_5), (4, .int v4_5)] → W p l e rm_X7_alike s m args below meth c H locs 0 0 Q (F0 m 5 ls []) := by
    intro n
    induction n with
    | zero => intro v3_5 v4_5 H locs ls hw; exact False.elim hw
    | succ n ih_5 =>
      intro v3_5 v4_5 H locs ls hw hG hl
      obtain ⟨w_5, hw_5, hw⟩ : ∃ w' : Int32 → Int32 → Prop, (∀ v3_5 v4_5, w' v3_5 v4_5 → Lp2 (b_X7_alike_5 c_this_aims c_this_planScore x1 x2 kx_5) n v3_5 v4_5) ∧ b_X7_alike_5 c_this_aims c_this_planScore x1 x2 kx_5 w' v3_5 v4_5 := ⟨_, fun _ _ h => h, hw⟩
      replace ih_5 : ∀ (v3_5 : Int32) (v4_5 : Int32) (H : Heap) (locs : List Loc) (ls : Array Slot), w_5 v3_5 v4_5 → HW (dC, dI) A s.heap [(a_this, .inr (6, [.int c_this_columns, .int c_this_rows, .int c_this_aims, .ref a_this_lows, .ref a_this_highs, .ref a_this_rights, .ref a_this_terms, .ref a_this_costs, .ref a_this_froms, .ref a_this_tos, .int c_this_gone, .int c_this_plans, .ref a_this_planPoint, .ref a_this_planScore, .int c_this_front, .ref a_this_frontPlan, .ref a_this_frontTies, .int c_this_picks, .ref a_this_pick, .int c_this_hasClimbed, .ref a_this_end, .ref a_this_point, .ref a_this_score, .ref a_this_by, .ref a_this_four, .ref a_this_isNear, .ref a_this_number, .ref a_this_numbers, .ref a_this_place, .ref a_this_was])), (a_this_planScore, .inl (cI, 8000, .inl c_this_planScore))] H locs → lv_has ls 5 [(0, .ref a_this), (1, .int x1), (2, .int x2), (3, .int v3_5), (4, .int v4_5)] → W p l e rm_X7_alike s m args below meth c H locs 0 0 Q (F0 m 5 ls []) := fun v3_5 v4_5 H locs ls h => ih_5 v3_5 v4_5 H locs ls (hw_5 _ _ h)
      unfold b_X7_alike_5 at hw
      refine lv_iload K.1 K.2.1 dX7_alike_5 (lv_at hl 4 rfl) ?_
      refine lv_aload_n K.1 K.2.1 dX7_alike_7 rfl (lv_at hl 0 rfl) ?_
      refine g_get (v := .int c_this_aims) K hG hin_RX7 0 rfl rfl 2 (by decide) (K.2.2.2.2.1 (.fieldLink RX7 89 "AimFrontsModel" "aims" "I") (by decide +kernel)) rfl rfl dX7_alike_8 ?_
      refine lv_icmp_ge (tgt := 47) K.1 K.2.1 dX7_alike_11 (by decide) (fun q_11 => ?_) (fun q_11 => ?_)
      · have hw := hw.1 q_11
        exact hX_5 v3_5 H locs ls hw hG (lv_sub hl [3] rfl)
      · have hw := hw.2 q_11
        refine lv_iload_n K.1 K.2.1 dX7_alike_14 rfl (lv_at hl 3 rfl) ?_
        refine lv_if_eq (tgt := 39) K.1 K.2.1 dX7_alike_15 (by decide) (fun q_15 => ?_) (fun q_15 => ?_)
        · have hw := hw.1 q_15
          refine lv_iconst (v := 0) K.1 K.2.1 dX7_alike_39 (by decide) ?_
          refine lv_istore_n (lv' := [(3, .int (0 : Int32)), (0, .ref a_this), (1, .int x1), (2, .int x2), (4, .int v4_5)]) K.1 K.2.1 dX7_alike_40 rfl hl (by decide) rfl (fun ls hl => ?_)
          refine lv_iinc (v := (v4_5 + (1 : Int32))) (lv' := [(4, .int (v4_5 + (1 : Int32))), (3, .int (0 : Int32)), (0, .ref a_this), (1, .int x1), (2, .int x2)]) K.1 K.2.1 dX7_alike_41 hl (k := 4) rfl rfl (by decide) rfl (fun ls hl => ?_)
          refine lv_goto (tgt := 5) K.1 K.2.1 dX7_alike_44 (by decide) ?_
          exact ih_5 (0 : Int32) (v4_5 + (1 : Int32)) H locs ls hw hG (lv_sub hl [2, 3, 4, 1, 0] rfl)
        · have hw := hw.2 q_15
          refine lv_aload_n K.1 K.2.1 dX7_alike_18 rfl (lv_at hl 0 rfl) ?_
          refine lv_iload_n K.1 K.2.1 dX7_alike_19 rfl (lv_at hl 1 rfl) ?_
          refine lv_iload K.1 K.2.1 dX7_alike_20 (lv_at hl 4 rfl) ?_
          refine g_ri K hG [0, 1] rfl (g_runV (As := [.int x1, .int v4_5]) (rest := []) K hG hl [0, 1] rfl rfl 0 rfl rfl (k_X7_of l dC dI cI cJ cZ cG H.size a_this a_this_lows a_this_highs a_this_rights a_this_terms a_this_costs a_this_froms a_this_tos a_this_planPoint a_this_planScore a_this_frontPlan a_this_frontTies a_this_pick a_this_end a_this_point a_this_score a_this_by a_this_four a_this_isNear a_this_number a_this_numbers a_this_place a_this_was c_this_aims c_this_columns c_this_front c_this_gone c_this_hasClimbed c_this_picks c_this_planScore c_this_plans c_this_rows x1 v4_5 _ hw) (cwV 2 K.2.2.2.2.1 gX7_alike_X7_of rfl rfl rfl (by decide +kernel) ⟨by decide, by decide⟩) rfl rfl (Nat.le_of_ble_eq_true rfl) ⟨Nat.zero_le _, Nat.zero_le _⟩ dX7_alike_22) (fun r_22 H locs hw hG => ?_)
          refine lv_aload_n K.1 K.2.1 dX7_alike_25 rfl (lv_at hl 0 rfl) ?_
          refine lv_iload_n K.1 K.2.1 dX7_alike_26 rfl (lv_at hl 2 rfl) ?_
          refine lv_iload K.1 K.2.1 dX7_alike_27 (lv_at hl 4 rfl) ?_
          refine g_ri K hG [0, 1] rfl (g_runV (As := [.int x2, .int v4_5]) (rest := [.int r_22]) K hG hl [0, 1] rfl rfl 0 rfl rfl (k_X7_of l dC dI cI cJ cZ cG H.size a_this a_this_lows a_this_highs a_this_rights a_this_terms a_this_costs a_this_froms a_this_tos a_this_planPoint a_this_planScore a_this_frontPlan a_this_frontTies a_this_pick a_this_end a_this_point a_this_score a_this_by a_this_four a_this_isNear a_this_number a_this_numbers a_this_place a_this_was c_this_aims c_this_columns c_this_front c_this_gone c_this_hasClimbed c_this_picks c_this_planScore c_this_plans c_this_rows x2 v4_5 _ hw) (cwV 2 K.2.2.2.2.1 gX7_alike_X7_of rfl rfl rfl (by decide +kernel) ⟨by decide, by decide⟩) rfl rfl (Nat.le_of_ble_eq_true rfl) ⟨Nat.zero_le _, Nat.zero_le _⟩ dX7_alike_29) (fun r_29 H locs hw hG => ?_)
          refine lv_icmp_ne (tgt := 39) K.1 K.2.1 dX7_alike_32 (by decide) (fun q_32 => ?_) (fun q_32 => ?_)
          · have hw := hw.2 q_32
            refine lv_iconst (v := 0) K.1 K.2.1 dX7_alike_39 (by decide) ?_
            refine lv_istore_n (lv' := [(3, .int (0 : Int32)), (0, .ref a_this), (1, .int x1), (2, .int x2), (4, .int v4_5)]) K.1 K.2.1 dX7_alike_40 rfl hl (by decide) rfl (fun ls hl => ?_)
            refine lv_iinc (v := (v4_5 + (1 : Int32))) (lv' := [(4, .int (v4_5 + (1 : Int32))), (3, .int (0 : Int32)), (0, .ref a_this), (1, .int x1), (2, .int x2)]) K.1 K.2.1 dX7_alike_41 hl (k := 4) rfl rfl (by decide) rfl (fun ls hl => ?_)
            refine lv_goto (tgt := 5) K.1 K.2.1 dX7_alike_44 (by decide) ?_
            exact ih_5 (0 : Int32) (v4_5 + (1 : Int32)) H locs ls hw hG (lv_sub hl [2, 3, 4, 1, 0] rfl)
          · have hw := hw.1 q_32
            refine lv_iconst (v := 1) K.1 K.2.1 dX7_alike_35 (by decide) ?_
            refine lv_goto (tgt := 40) K.1 K.2.1 dX7_alike_36 (by decide) ?_
            refine lv_istore_n (lv' := [(3, .int (1 : Int32)), (0, .ref a_this), (1, .int x1), (2, .int x2), (4, .int v4_5)]) K.1 K.2.1 dX7_alike_40 rfl hl (by decide) rfl (fun ls hl => ?_)
            refine lv_iinc (v := (v4_5 + (1 : Int32))) (lv' := [(4, .int (v4_5 + (1 : Int32))), (3, .int (1 : Int32)), (0, .ref a_this), (1, .int x1), (2, .int x2)]) K.1 K.2.1 dX7_alike_41 hl (k := 4) rfl rfl (by decide) rfl (fun ls hl => ?_)
            refine lv_goto (tgt := 5) K.1 K.2.1 dX7_alike_44 (by decide) ?_
            exact ih_5 (1 : Int32) (v4_5 + (1 : Int32)) H locs ls hw hG (lv_sub hl [2, 3, 4, 1, 0] rfl)
  exact hL_5 n_5 (1 : Int32) (0 : Int32) H locs ls hw hG (lv_sub hl [2, 3, 4, 1, 0] rfl)
abbrev rm_X7_before : Room := { frames := 1, cells := 0, slots := 0, locals := 22 }
set_option maxHeartbeats 4000000 in
set_option maxRecDepth 100000 in
theorem k_X7_before (l : Launch) (dC : Nat → ClassId) (dI : Nat → Nat → Nat) (cI cJ cZ cG : ClassId) (sz : Nat) (a_this a_this_lows a_this_highs a_this_rights a_this_terms a_this_costs a_this_froms a_this_tos a_this_planPoint a_this_planScore a_this_frontPlan a_this_frontTies a_this_pick a_this_end a_this_point a_this_score a_this_by a_this_four a_this_isNear a_this_number a_this_numbers a_this_place a_this_was : Nat) (c_this_aims : Int32) (c_this_columns : Int32) (c_this_front : Int32) (c_this_gone : Int32) (c_this_hasClimbed : Int32) (c_this_picks : Int32) (c_this_planScore : Nat → Int32) (c_this_plans : Int32) (c_this_rows : Int32) (x1 : Int32) (x2 : Int32) (post : Int32 → Prop) (hw : wp_X7_before c_this_aims c_this_planScore x1 x2 post) : MetI l yX7_before wsX7_before rm_X7_before (dC, dI) cI cJ cZ cG [.ref a_this, .int x1, .int x2] sz [(a_this, .inr (6, [.int c_this_columns, .int c_this_rows, .int c_this_aims, .ref a_this_lows, .ref a_this_highs, .ref a_this_rights, .ref a_this_terms, .ref a_this_costs, .ref a_this_froms, .ref a_this_tos, .int c_this_gone, .int c_this_plans, .ref a_this_planPoint, .ref a_this_planScore, .int c_this_front, .ref a_this_frontPlan, .ref a_this_frontTies, .int c_this_picks, .ref a_this_pick, .int c_this_hasClimbed, .ref a_this_end, .ref a_this_point, .ref a_this_score, .ref a_this_by, .ref a_this_four, .ref a_this_isNear, .ref a_this_number, .ref a_this_numbers, .ref a_this_place, .ref a_this_was])), (a_this_planScore, .inl (cI, 8000, .inl c_this_planScore))] (fun (r : Int32) (u : Unit) => post r) (fun u => [(a_this, .inr (6, [.int c_this_columns, .int c_this_rows, .int c_this_aims, .ref a_this_lows, .ref a_this_highs, .ref a_this_rights, .ref a_this_terms, .ref a_this_costs, .ref a_this_froms, .ref a_this_tos, .int c_this_gone, .int c_this_plans, .ref a_this_planPoint, .ref a_this_planScore, .int c_this_front, .ref a_this_frontPlan, .ref a_this_frontTies, .int c_this_picks, .ref a_this_pick, .int c_this_hasClimbed, .ref a_this_end, .ref a_this_point, .ref a_this_score, .ref a_this_by, .ref a_this_four, .ref a_this_isNear, .ref a_this_number, .ref a_this_numbers, .ref a_this_place, .ref a_this_was])), (a_this_planScore, .inl (cI, 8000, .inl c_this_planScore))]) := by
  refine met_i (ty := .boolean) (Or.inr rfl) (cc := cX7_before) (maxL := 4) (by decide) rfl (Nat.le_of_ble_eq_true rfl) ?_
  intro p e s m args below meth c A Q H locs ls K hG hl hret
  have hl : lv_has ls 4 [(0, .ref a_this), (1, .int x1), (2, .int x2)] := hl
  have hin_RX7 : ∀ w ∈ u_ws RX7 TX7 30, w ∈ wsX7_before := by decide +kernel
  unfold wp_X7_before at hw
  refine lv_iconst (v := 0) K.1 K.2.1 dX7_before_0 (by decide) ?_
  refine lv_istore_n (lv' := [(3, .int (0 : Int32)), (0, .ref a_this), (1, .int x1), (2, .int x2)]) K.1 K.2.1 dX7_before_1 rfl hl (by decide) rfl (fun ls hl => ?_)
  obtain ⟨kx_2, hkx_2, n_2, hw⟩ := Lx0_1_abs hw
  have hX_2 : ∀  (H : Heap) (locs : List Loc) (ls : Array Slot), kx_2 → HW (dC, dI) A s.heap [(a_this, .inr (6, [.int c_this_columns, .int c_this_rows, .int c_this_aims, .ref a_this_lows, .ref a_this_highs, .ref a_this_rights, .ref a_this_terms, .ref a_this_costs, .ref a_this_froms, .ref a_this_tos, .int c_this_gone, .int c_this_plans, .ref a_this_planPoint, .ref a_this_planScore, .int c_this_front, .ref a_this_frontPlan, .ref a_this_frontTies, .int c_this_picks, .ref a_this_pick, .int c_this_hasClimbed, .ref a_this_end, .ref a_this_point, .ref a_this_score, .ref a_this_by, .ref a_this_four, .ref a_this_isNear, .ref a_this_number, .ref a_this_numbers, .ref a_this_place, .ref a_this_was])), (a_this_planScore, .inl (cI, 8000, .inl c_this_planScore))] H locs → lv_has ls 4 [] → W p l e rm_X7_before s m args below meth c H locs 0 0 Q (F0 m 52 ls []) := by
    intro H locs ls hw hG hl
    have hw := hkx_2 hw
    refine lv_iconst (v := 0) K.1 K.2.1 dX7_before_52 (by decide) ?_
    exact hret (0 : Int32) () H locs _ ls dX7_before_53 rfl hw hG
  have hL_2 : ∀ (n : Nat), ∀ (v3_2 : Int32) (H : Heap) (locs : List Loc) (ls : Array Slot), Lp1 (b_X7_before_2 c_this_aims c_this_planScore x1 x2 post kx_2) n v3_2 → HW (dC, dI) A s.heap [(a_this, .inr (6, [.int c_this_columns, .int c_this_rows, .int c_this_aims, .ref a_this_lows, .ref a_this_highs, .ref a_this_rights, .ref a_this_terms, .ref a_this_costs, .ref a_this_froms, .ref a_this_tos, .int c_this_gone, .int c_this_plans, .ref a_this_planPoint, .ref a_this_planScore, .int c_this_front, .ref a_this_frontPlan, .ref a_this_frontTies, .int c_this_picks, .ref a_this_pick, .int c_this_hasClimbed, .ref a_this_end, .ref a_this_point, .ref a_this_score, .ref a_this_by, .ref a_this_four, .ref a_this_isNear, .ref a_this_number, .ref a_this_numbers, .ref a_this_place, .ref a_this_was])), (a_this_planScore, .inl (cI, 8000, .inl c_this_planScore))] H locs → lv_has ls 4 [(0, .ref a_this), (1, .int x1), (2, .int x2), (3, .int v3_2)] → W p l e rm_X7_before s m args below meth c H locs 0 0 Q (F0 m 2 ls []) := by
    intro n
    induction n with
    | zero => intro v3_2 H locs ls hw; exact False.elim hw
    | succ n ih_2 =>
      intro v3_2 H locs ls hw hG hl
      obtain ⟨w_2, hw_2, hw⟩ : ∃ w' : Int32 → Prop, (∀ v3_2, w' v3_2 → Lp1 (b_X7_before_2 c_this_aims c_this_planScore x1 x2 post kx_2) n v3_2) ∧ b_X7_before_2 c_this_aims c_this_planScore x1 x2 post kx_2 w' v3_2 := ⟨_, fun _ h => h, hw⟩
      replace ih_2 : ∀ (v3_2 : Int32) (H : Heap) (locs : List Loc) (ls : Array Slot), w_2 v3_2 → HW (dC, dI) A s.heap [(a_this, .inr (6, [.int c_this_columns, .int c_this_rows, .int c_this_aims, .ref a_this_lows, .ref a_this_highs, .ref a_this_rights, .ref a_this_terms, .ref a_this_costs, .ref a_this_froms, .ref a_this_tos, .int c_this_gone, .int c_this_plans, .ref a_this_planPoint, .ref a_this_planScore, .int c_this_front, .ref a_this_frontPlan, .ref a_this_frontTies, .int c_this_picks, .ref a_this_pick, .int c_this_hasClimbed, .ref a_this_end, .ref a_this_point, .ref a_this_score, .ref a_this_by, .ref a_this_four, .ref a_this_isNear, .ref a_this_number, .ref a_this_numbers, .ref a_this_place, .ref a_this_was])), (a_this_planScore, .inl (cI, 8000, .inl c_this_planScore))] H locs → lv_has ls 4 [(0, .ref a_this), (1, .int x1), (2, .int x2), (3, .int v3_2)] → W p l e rm_X7_before s m args below meth c H locs 0 0 Q (F0 m 2 ls []) := fun v3_2 H locs ls h => ih_2 v3_2 H locs ls (hw_2 _ h)
      unfold b_X7_before_2 at hw
      refine lv_iload_n K.1 K.2.1 dX7_before_2 rfl (lv_at hl 3 rfl) ?_
      refine lv_aload_n K.1 K.2.1 dX7_before_3 rfl (lv_at hl 0 rfl) ?_
      refine g_get (v := .int c_this_aims) K hG hin_RX7 0 rfl rfl 2 (by decide) (K.2.2.2.2.1 (.fieldLink RX7 89 "AimFrontsModel" "aims" "I") (by decide +kernel)) rfl rfl dX7_before_4 ?_
      refine lv_icmp_ge (tgt := 52) K.1 K.2.1 dX7_before_7 (by decide) (fun q_7 => ?_) (fun q_7 => ?_)
      · have hw := hw.1 q_7
        exact hX_2 H locs ls hw hG (lv_sub hl [] rfl)
      · have hw := hw.2 q_7
        refine lv_aload_n K.1 K.2.1 dX7_before_10 rfl (lv_at hl 0 rfl) ?_
        refine lv_iload_n K.1 K.2.1 dX7_before_11 rfl (lv_at hl 1 rfl) ?_
        refine lv_iload_n K.1 K.2.1 dX7_before_12 rfl (lv_at hl 3 rfl) ?_
        refine g_ri K hG [0, 1] rfl (g_runV (As := [.int x1, .int v3_2]) (rest := []) K hG hl [0, 1] rfl rfl 0 rfl rfl (k_X7_of l dC dI cI cJ cZ cG H.size a_this a_this_lows a_this_highs a_this_rights a_this_terms a_this_costs a_this_froms a_this_tos a_this_planPoint a_this_planScore a_this_frontPlan a_this_frontTies a_this_pick a_this_end a_this_point a_this_score a_this_by a_this_four a_this_isNear a_this_number a_this_numbers a_this_place a_this_was c_this_aims c_this_columns c_this_front c_this_gone c_this_hasClimbed c_this_picks c_this_planScore c_this_plans c_this_rows x1 v3_2 _ hw) (cwV 2 K.2.2.2.2.1 gX7_before_X7_of rfl rfl rfl (by decide +kernel) ⟨by decide, by decide⟩) rfl rfl (Nat.le_of_ble_eq_true rfl) ⟨Nat.zero_le _, Nat.zero_le _⟩ dX7_before_13) (fun r_13 H locs hw hG => ?_)
        refine lv_aload_n K.1 K.2.1 dX7_before_16 rfl (lv_at hl 0 rfl) ?_
        refine lv_iload_n K.1 K.2.1 dX7_before_17 rfl (lv_at hl 2 rfl) ?_
        refine lv_iload_n K.1 K.2.1 dX7_before_18 rfl (lv_at hl 3 rfl) ?_
        refine g_ri K hG [0, 1] rfl (g_runV (As := [.int x2, .int v3_2]) (rest := [.int r_13]) K hG hl [0, 1] rfl rfl 0 rfl rfl (k_X7_of l dC dI cI cJ cZ cG H.size a_this a_this_lows a_this_highs a_this_rights a_this_terms a_this_costs a_this_froms a_this_tos a_this_planPoint a_this_planScore a_this_frontPlan a_this_frontTies a_this_pick a_this_end a_this_point a_this_score a_this_by a_this_four a_this_isNear a_this_number a_this_numbers a_this_place a_this_was c_this_aims c_this_columns c_this_front c_this_gone c_this_hasClimbed c_this_picks c_this_planScore c_this_plans c_this_rows x2 v3_2 _ hw) (cwV 2 K.2.2.2.2.1 gX7_before_X7_of rfl rfl rfl (by decide +kernel) ⟨by decide, by decide⟩) rfl rfl (Nat.le_of_ble_eq_true rfl) ⟨Nat.zero_le _, Nat.zero_le _⟩ dX7_before_19) (fun r_19 H locs hw hG => ?_)
        refine lv_icmp_eq (tgt := 46) K.1 K.2.1 dX7_before_22 (by decide) (fun q_22 => ?_) (fun q_22 => ?_)
        · have hw := hw.1 q_22
          refine lv_iinc (v := (v3_2 + (1 : Int32))) (lv' := [(3, .int (v3_2 + (1 : Int32))), (0, .ref a_this), (1, .int x1), (2, .int x2)]) K.1 K.2.1 dX7_before_46 hl (k := 3) rfl rfl (by decide) rfl (fun ls hl => ?_)
          refine lv_goto (tgt := 2) K.1 K.2.1 dX7_before_49 (by decide) ?_
          exact ih_2 (v3_2 + (1 : Int32)) H locs ls hw hG (lv_sub hl [1, 2, 3, 0] rfl)
        · have hw := hw.2 q_22
          refine lv_aload_n K.1 K.2.1 dX7_before_25 rfl (lv_at hl 0 rfl) ?_
          refine lv_iload_n K.1 K.2.1 dX7_before_26 rfl (lv_at hl 1 rfl) ?_
          refine lv_iload_n K.1 K.2.1 dX7_before_27 rfl (lv_at hl 3 rfl) ?_
          refine g_ri K hG [0, 1] rfl (g_runV (As := [.int x1, .int v3_2]) (rest := []) K hG hl [0, 1] rfl rfl 0 rfl rfl (k_X7_of l dC dI cI cJ cZ cG H.size a_this a_this_lows a_this_highs a_this_rights a_this_terms a_this_costs a_this_froms a_this_tos a_this_planPoint a_this_planScore a_this_frontPlan a_this_frontTies a_this_pick a_this_end a_this_point a_this_score a_this_by a_this_four a_this_isNear a_this_number a_this_numbers a_this_place a_this_was c_this_aims c_this_columns c_this_front c_this_gone c_this_hasClimbed c_this_picks c_this_planScore c_this_plans c_this_rows x1 v3_2 _ hw) (cwV 2 K.2.2.2.2.1 gX7_before_X7_of rfl rfl rfl (by decide +kernel) ⟨by decide, by decide⟩) rfl rfl (Nat.le_of_ble_eq_true rfl) ⟨Nat.zero_le _, Nat.zero_le _⟩ dX7_before_28) (fun r_28 H locs hw hG => ?_)
          refine lv_aload_n K.1 K.2.1 dX7_before_31 rfl (lv_at hl 0 rfl) ?_
          refine lv_iload_n K.1 K.2.1 dX7_before_32 rfl (lv_at hl 2 rfl) ?_
          refine lv_iload_n K.1 K.2.1 dX7_before_33 rfl (lv_at hl 3 rfl) ?_
          refine g_ri K hG [0, 1] rfl (g_runV (As := [.int x2, .int v3_2]) (rest := [.int r_28]) K hG hl [0, 1] rfl rfl 0 rfl rfl (k_X7_of l dC dI cI cJ cZ cG H.size a_this a_this_lows a_this_highs a_this_rights a_this_terms a_this_costs a_this_froms a_this_tos a_this_planPoint a_this_planScore a_this_frontPlan a_this_frontTies a_this_pick a_this_end a_this_point a_this_score a_this_by a_this_four a_this_isNear a_this_number a_this_numbers a_this_place a_this_was c_this_aims c_this_columns c_this_front c_this_gone c_this_hasClimbed c_this_picks c_this_planScore c_this_plans c_this_rows x2 v3_2 _ hw) (cwV 2 K.2.2.2.2.1 gX7_before_X7_of rfl rfl rfl (by decide +kernel) ⟨by decide, by decide⟩) rfl rfl (Nat.le_of_ble_eq_true rfl) ⟨Nat.zero_le _, Nat.zero_le _⟩ dX7_before_34) (fun r_34 H locs hw hG => ?_)
          refine lv_icmp_ge (tgt := 44) K.1 K.2.1 dX7_before_37 (by decide) (fun q_37 => ?_) (fun q_37 => ?_)
          · have hw := hw.1 q_37
            refine lv_iconst (v := 0) K.1 K.2.1 dX7_before_44 (by decide) ?_
            exact hret (0 : Int32) () H locs _ ls dX7_before_45 rfl hw hG
          · have hw := hw.2 q_37
            refine lv_iconst (v := 1) K.1 K.2.1 dX7_before_40 (by decide) ?_
            refine lv_goto (tgt := 45) K.1 K.2.1 dX7_before_41 (by decide) ?_
            exact hret (1 : Int32) () H locs _ ls dX7_before_45 rfl hw hG
  exact hL_2 n_2 (0 : Int32) H locs ls hw hG (lv_sub hl [1, 2, 3, 0] rfl)
abbrev rm_X7_lay : Room := { frames := 2, cells := 0, slots := 0, locals := 45 }
set_option maxHeartbeats 4000000 in
set_option maxRecDepth 100000 in
theorem k_X7_lay (l : Launch) (dC : Nat → ClassId) (dI : Nat → Nat → Nat) (cI cJ cZ cG : ClassId) (sz : Nat) (a_this a_this_lows a_this_highs a_this_rights a_this_terms a_this_costs a_this_froms a_this_tos a_this_planPoint a_this_planScore a_this_frontPlan a_this_frontTies a_this_pick a_this_end a_this_point a_this_score a_this_by a_this_four a_this_isNear a_this_number a_this_numbers a_this_place a_this_was : Nat) (c_this_aims : Int32) (c_this_columns : Int32) (c_this_front : Int32) (c_this_frontPlan : Nat → Int32) (c_this_frontTies : Nat → Int32) (c_this_gone : Int32) (c_this_hasClimbed : Int32) (c_this_picks : Int32) (c_this_planScore : Nat → Int32) (c_this_plans : Int32) (c_this_rows : Int32) (x1 : Int32) (x2 : Int32) (post : Int32 → (Nat → Int32) → (Nat → Int32) → Prop) (hw : wp_X7_lay c_this_aims c_this_front c_this_frontPlan c_this_frontTies c_this_planScore x1 x2 post) : MetV l yX7_lay wsX7_lay rm_X7_lay (dC, dI) cI cJ cZ cG [.ref a_this, .int x1, .int x2] sz [(a_this, .inr (6, [.int c_this_columns, .int c_this_rows, .int c_this_aims, .ref a_this_lows, .ref a_this_highs, .ref a_this_rights, .ref a_this_terms, .ref a_this_costs, .ref a_this_froms, .ref a_this_tos, .int c_this_gone, .int c_this_plans, .ref a_this_planPoint, .ref a_this_planScore, .int c_this_front, .ref a_this_frontPlan, .ref a_this_frontTies, .int c_this_picks, .ref a_this_pick, .int c_this_hasClimbed, .ref a_this_end, .ref a_this_point, .ref a_this_score, .ref a_this_by, .ref a_this_four, .ref a_this_isNear, .ref a_this_number, .ref a_this_numbers, .ref a_this_place, .ref a_this_was])), (a_this_frontPlan, .inl (cI, 2000, .inl c_this_frontPlan)), (a_this_frontTies, .inl (cI, 2000, .inl c_this_frontTies)), (a_this_planScore, .inl (cI, 8000, .inl c_this_planScore))] (fun (u : Int32 × (Nat → Int32) × (Nat → Int32)) => post (u.1) (u.2.1) (u.2.2)) (fun u => [(a_this, .inr (6, [.int c_this_columns, .int c_this_rows, .int c_this_aims, .ref a_this_lows, .ref a_this_highs, .ref a_this_rights, .ref a_this_terms, .ref a_this_costs, .ref a_this_froms, .ref a_this_tos, .int c_this_gone, .int c_this_plans, .ref a_this_planPoint, .ref a_this_planScore, .int (u.1), .ref a_this_frontPlan, .ref a_this_frontTies, .int c_this_picks, .ref a_this_pick, .int c_this_hasClimbed, .ref a_this_end, .ref a_this_point, .ref a_this_score, .ref a_this_by, .ref a_this_four, .ref a_this_isNear, .ref a_this_number, .ref a_this_numbers, .ref a_this_place, .ref a_this_was])), (a_this_frontPlan, .inl (cI, 2000, .inl (u.2.1))), (a_this_frontTies, .inl (cI, 2000, .inl (u.2.2))), (a_this_planScore, .inl (cI, 8000, .inl c_this_planScore))]) := by
  refine met_v (cc := cX7_lay) (maxL := 4) (by decide) rfl (Nat.le_of_ble_eq_true rfl) ?_
  intro p e s m args below meth c A Q H locs ls K hG hl hret
  have hl : lv_has ls 4 [(0, .ref a_this), (1, .int x1), (2, .int x2)] := hl
  have hin_RX7 : ∀ w ∈ u_ws RX7 TX7 30, w ∈ wsX7_lay := by decide +kernel
  unfold wp_X7_lay at hw
  refine lv_aload_n K.1 K.2.1 dX7_lay_0 rfl (lv_at hl 0 rfl) ?_
  refine g_get (v := .int c_this_front) K hG hin_RX7 0 rfl rfl 14 (by decide) (K.2.2.2.2.1 (.fieldLink RX7 98 "AimFrontsModel" "front" "I") (by decide +kernel)) rfl rfl dX7_lay_1 ?_
  refine lv_istore_n (lv' := [(3, .int c_this_front), (0, .ref a_this), (1, .int x1), (2, .int x2)]) K.1 K.2.1 dX7_lay_4 rfl hl (by decide) rfl (fun ls hl => ?_)
  obtain ⟨kx_5, hkx_5, n_5, hw⟩ := Lx3_3_abs hw
  have hX_5 : ∀ (v3_5e : Int32) (c_this_frontPlan_5e : Nat → Int32) (c_this_frontTies_5e : Nat → Int32) (H : Heap) (locs : List Loc) (ls : Array Slot), kx_5 v3_5e c_this_frontPlan_5e c_this_frontTies_5e → HW (dC, dI) A s.heap [(a_this, .inr (6, [.int c_this_columns, .int c_this_rows, .int c_this_aims, .ref a_this_lows, .ref a_this_highs, .ref a_this_rights, .ref a_this_terms, .ref a_this_costs, .ref a_this_froms, .ref a_this_tos, .int c_this_gone, .int c_this_plans, .ref a_this_planPoint, .ref a_this_planScore, .int c_this_front, .ref a_this_frontPlan, .ref a_this_frontTies, .int c_this_picks, .ref a_this_pick, .int c_this_hasClimbed, .ref a_this_end, .ref a_this_point, .ref a_this_score, .ref a_this_by, .ref a_this_four, .ref a_this_isNear, .ref a_this_number, .ref a_this_numbers, .ref a_this_place, .ref a_this_was])), (a_this_frontPlan, .inl (cI, 2000, .inl c_this_frontPlan_5e)), (a_this_frontTies, .inl (cI, 2000, .inl c_this_frontTies_5e)), (a_this_planScore, .inl (cI, 8000, .inl c_this_planScore))] H locs → lv_has ls 4 [(0, .ref a_this), (1, .int x1), (2, .int x2), (3, .int v3_5e)] → W p l e rm_X7_lay s m args below meth c H locs 0 0 Q (F0 m 59 ls []) := by
    intro v3_5e c_this_frontPlan_5e c_this_frontTies_5e H locs ls hw hG hl
    have hw := hkx_5 _ _ _ hw
    refine lv_aload_n K.1 K.2.1 dX7_lay_59 rfl (lv_at hl 0 rfl) ?_
    refine g_get (v := .ref a_this_frontPlan) K hG hin_RX7 0 rfl rfl 15 (by decide) (K.2.2.2.2.1 (.fieldLink RX7 37 "AimFrontsModel" "frontPlan" "[I") (by decide +kernel)) rfl rfl dX7_lay_60 ?_
    refine lv_iload_n K.1 K.2.1 dX7_lay_63 rfl (lv_at hl 3 rfl) ?_
    refine lv_iload_n K.1 K.2.1 dX7_lay_64 rfl (lv_at hl 1 rfl) ?_
    obtain ⟨h_65, hw⟩ := hw
    refine g_iast (ws' := [(a_this, .inr (6, [.int c_this_columns, .int c_this_rows, .int c_this_aims, .ref a_this_lows, .ref a_this_highs, .ref a_this_rights, .ref a_this_terms, .ref a_this_costs, .ref a_this_froms, .ref a_this_tos, .int c_this_gone, .int c_this_plans, .ref a_this_planPoint, .ref a_this_planScore, .int c_this_front, .ref a_this_frontPlan, .ref a_this_frontTies, .int c_this_picks, .ref a_this_pick, .int c_this_hasClimbed, .ref a_this_end, .ref a_this_point, .ref a_this_score, .ref a_this_by, .ref a_this_four, .ref a_this_isNear, .ref a_this_number, .ref a_this_numbers, .ref a_this_place, .ref a_this_was])), (a_this_frontPlan, .inl (cI, 2000, .inl (upd c_this_frontPlan_5e (v3_5e).toNatClampNeg x1))), (a_this_frontTies, .inl (cI, 2000, .inl c_this_frontTies_5e)), (a_this_planScore, .inl (cI, 8000, .inl c_this_planScore))]) K hG 1 rfl h_65 rfl dX7_lay_65 (fun H locs hG => ?_)
    refine lv_aload_n K.1 K.2.1 dX7_lay_66 rfl (lv_at hl 0 rfl) ?_
    refine g_get (v := .ref a_this_frontTies) K hG hin_RX7 0 rfl rfl 16 (by decide) (K.2.2.2.2.1 (.fieldLink RX7 40 "AimFrontsModel" "frontTies" "[I") (by decide +kernel)) rfl rfl dX7_lay_67 ?_
    refine lv_iload_n K.1 K.2.1 dX7_lay_70 rfl (lv_at hl 3 rfl) ?_
    refine lv_iload_n K.1 K.2.1 dX7_lay_71 rfl (lv_at hl 2 rfl) ?_
    obtain ⟨h_72, hw⟩ := hw
    refine g_iast (ws' := [(a_this, .inr (6, [.int c_this_columns, .int c_this_rows, .int c_this_aims, .ref a_this_lows, .ref a_this_highs, .ref a_this_rights, .ref a_this_terms, .ref a_this_costs, .ref a_this_froms, .ref a_this_tos, .int c_this_gone, .int c_this_plans, .ref a_this_planPoint, .ref a_this_planScore, .int c_this_front, .ref a_this_frontPlan, .ref a_this_frontTies, .int c_this_picks, .ref a_this_pick, .int c_this_hasClimbed, .ref a_this_end, .ref a_this_point, .ref a_this_score, .ref a_this_by, .ref a_this_four, .ref a_this_isNear, .ref a_this_number, .ref a_this_numbers, .ref a_this_place, .ref a_this_was])), (a_this_frontPlan, .inl (cI, 2000, .inl (upd c_this_frontPlan_5e (v3_5e).toNatClampNeg x1))), (a_this_frontTies, .inl (cI, 2000, .inl (upd c_this_frontTies_5e (v3_5e).toNatClampNeg x2))), (a_this_planScore, .inl (cI, 8000, .inl c_this_planScore))]) K hG 2 rfl h_72 rfl dX7_lay_72 (fun H locs hG => ?_)
    refine lv_aload_n K.1 K.2.1 dX7_lay_73 rfl (lv_at hl 0 rfl) ?_
    refine lv_dup K.1 K.2.1 dX7_lay_74 rfl ?_
    refine g_get (v := .int c_this_front) K hG hin_RX7 0 rfl rfl 14 (by decide) (K.2.2.2.2.1 (.fieldLink RX7 98 "AimFrontsModel" "front" "I") (by decide +kernel)) rfl rfl dX7_lay_75 ?_
    refine lv_iconst (v := 1) K.1 K.2.1 dX7_lay_78 (by decide) ?_
    refine lv_iadd K.1 K.2.1 dX7_lay_79 ?_
    refine g_put (v := .int (c_this_front + (1 : Int32))) (ws' := [(a_this, .inr (6, [.int c_this_columns, .int c_this_rows, .int c_this_aims, .ref a_this_lows, .ref a_this_highs, .ref a_this_rights, .ref a_this_terms, .ref a_this_costs, .ref a_this_froms, .ref a_this_tos, .int c_this_gone, .int c_this_plans, .ref a_this_planPoint, .ref a_this_planScore, .int (c_this_front + (1 : Int32)), .ref a_this_frontPlan, .ref a_this_frontTies, .int c_this_picks, .ref a_this_pick, .int c_this_hasClimbed, .ref a_this_end, .ref a_this_point, .ref a_this_score, .ref a_this_by, .ref a_this_four, .ref a_this_isNear, .ref a_this_number, .ref a_this_numbers, .ref a_this_place, .ref a_this_was])), (a_this_frontPlan, .inl (cI, 2000, .inl (upd c_this_frontPlan_5e (v3_5e).toNatClampNeg x1))), (a_this_frontTies, .inl (cI, 2000, .inl (upd c_this_frontTies_5e (v3_5e).toNatClampNeg x2))), (a_this_planScore, .inl (cI, 8000, .inl c_this_planScore))]) K hG hin_RX7 tyX7 tyX7_ok nmX7 0 rfl rfl 14 (by decide) (K.2.2.2.2.1 (.fieldLink RX7 98 "AimFrontsModel" "front" "I") (by decide +kernel)) rfl rfl rfl rfl (Nat.le_of_ble_eq_true rfl) rfl dX7_lay_80 (fun H locs hG => ?_)
    exact hret ((c_this_front + (1 : Int32)), (upd c_this_frontPlan_5e (v3_5e).toNatClampNeg x1), (upd c_this_frontTies_5e (v3_5e).toNatClampNeg x2)) H locs _ ls dX7_lay_83 hw hG
  have hL_5 : ∀ (n : Nat), ∀ (v3_5 : Int32) (c_this_frontPlan_5 : Nat → Int32) (c_this_frontTies_5 : Nat → Int32) (H : Heap) (locs : List Loc) (ls : Array Slot), Lp3 (b_X7_lay_5 c_this_aims c_this_planScore x1 kx_5) n v3_5 c_this_frontPlan_5 c_this_frontTies_5 → HW (dC, dI) A s.heap [(a_this, .inr (6, [.int c_this_columns, .int c_this_rows, .int c_this_aims, .ref a_this_lows, .ref a_this_highs, .ref a_this_rights, .ref a_this_terms, .ref a_this_costs, .ref a_this_froms, .ref a_this_tos, .int c_this_gone, .int c_this_plans, .ref a_this_planPoint, .ref a_this_planScore, .int c_this_front, .ref a_this_frontPlan, .ref a_this_frontTies, .int c_this_picks, .ref a_this_pick, .int c_this_hasClimbed, .ref a_this_end, .ref a_this_point, .ref a_this_score, .ref a_this_by, .ref a_this_four, .ref a_this_isNear, .ref a_this_number, .ref a_this_numbers, .ref a_this_place, .ref a_this_was])), (a_this_frontPlan, .inl (cI, 2000, .inl c_this_frontPlan_5)), (a_this_frontTies, .inl (cI, 2000, .inl c_this_frontTies_5)), (a_this_planScore, .inl (cI, 8000, .inl c_this_planScore))] H locs → lv_has ls 4 [(0, .ref a_this), (1, .int x1), (2, .int x2), (3, .int v3_5)] → W p l e rm_X7_lay s m args below meth c H locs 0 0 Q (F0 m 5 ls []) := by
    intro n
    induction n with
    | zero => intro v3_5 c_this_frontPlan_5 c_this_frontTies_5 H locs ls hw; exact False.elim hw
    | succ n ih_5 =>
      intro v3_5 c_this_frontPlan_5 c_this_frontTies_5 H locs ls hw hG hl
      obtain ⟨w_5, hw_5, hw⟩ : ∃ w' : Int32 → (Nat → Int32) → (Nat → Int32) → Prop, (∀ v3_5 c_this_frontPlan_5 c_this_frontTies_5, w' v3_5 c_this_frontPlan_5 c_this_frontTies_5 → Lp3 (b_X7_lay_5 c_this_aims c_this_planScore x1 kx_5) n v3_5 c_this_frontPlan_5 c_this_frontTies_5) ∧ b_X7_lay_5 c_this_aims c_this_planScore x1 kx_5 w' v3_5 c_this_frontPlan_5 c_this_frontTies_5 := ⟨_, fun _ _ _ h => h, hw⟩
      replace ih_5 : ∀ (v3_5 : Int32) (c_this_frontPlan_5 : Nat → Int32) (c_this_frontTies_5 : Nat → Int32) (H : Heap) (locs : List Loc) (ls : Array Slot), w_5 v3_5 c_this_frontPlan_5 c_this_frontTies_5 → HW (dC, dI) A s.heap [(a_this, .inr (6, [.int c_this_columns, .int c_this_rows, .int c_this_aims, .ref a_this_lows, .ref a_this_highs, .ref a_this_rights, .ref a_this_terms, .ref a_this_costs, .ref a_this_froms, .ref a_this_tos, .int c_this_gone, .int c_this_plans, .ref a_this_planPoint, .ref a_this_planScore, .int c_this_front, .ref a_this_frontPlan, .ref a_this_frontTies, .int c_this_picks, .ref a_this_pick, .int c_this_hasClimbed, .ref a_this_end, .ref a_this_point, .ref a_this_score, .ref a_this_by, .ref a_this_four, .ref a_this_isNear, .ref a_this_number, .ref a_this_numbers, .ref a_this_place, .ref a_this_was])), (a_this_frontPlan, .inl (cI, 2000, .inl c_this_frontPlan_5)), (a_this_frontTies, .inl (cI, 2000, .inl c_this_frontTies_5)), (a_this_planScore, .inl (cI, 8000, .inl c_this_planScore))] H locs → lv_has ls 4 [(0, .ref a_this), (1, .int x1), (2, .int x2), (3, .int v3_5)] → W p l e rm_X7_lay s m args below meth c H locs 0 0 Q (F0 m 5 ls []) := fun v3_5 c_this_frontPlan_5 c_this_frontTies_5 H locs ls h => ih_5 v3_5 c_this_frontPlan_5 c_this_frontTies_5 H locs ls (hw_5 _ _ _ h)
      unfold b_X7_lay_5 at hw
      refine lv_iload_n K.1 K.2.1 dX7_lay_5 rfl (lv_at hl 3 rfl) ?_
      refine lv_if_le (tgt := 59) K.1 K.2.1 dX7_lay_6 (by decide) (fun q_6 => ?_) (fun q_6 => ?_)
      · have hw := hw.1 q_6
        exact hX_5 v3_5 c_this_frontPlan_5 c_this_frontTies_5 H locs ls hw hG (lv_sub hl [0, 1, 2, 3] rfl)
      · have hw := hw.2 q_6
        refine lv_aload_n K.1 K.2.1 dX7_lay_9 rfl (lv_at hl 0 rfl) ?_
        refine lv_iload_n K.1 K.2.1 dX7_lay_10 rfl (lv_at hl 1 rfl) ?_
        refine lv_aload_n K.1 K.2.1 dX7_lay_11 rfl (lv_at hl 0 rfl) ?_
        refine g_get (v := .ref a_this_frontPlan) K hG hin_RX7 0 rfl rfl 15 (by decide) (K.2.2.2.2.1 (.fieldLink RX7 37 "AimFrontsModel" "frontPlan" "[I") (by decide +kernel)) rfl rfl dX7_lay_12 ?_
        refine lv_iload_n K.1 K.2.1 dX7_lay_15 rfl (lv_at hl 3 rfl) ?_
        refine lv_iconst (v := 1) K.1 K.2.1 dX7_lay_16 (by decide) ?_
        refine lv_isub K.1 K.2.1 dX7_lay_17 ?_
        obtain ⟨h_18, hw⟩ := hw
        refine g_iald K hG 1 rfl h_18 dX7_lay_18 ?_
        refine g_ri K hG [0, 3] rfl (g_runV (As := [.int x1, .int (c_this_frontPlan_5 ((v3_5 - (1 : Int32))).toNatClampNeg)]) (rest := []) K hG hl [0, 3] rfl rfl 0 rfl rfl (k_X7_before l dC dI cI cJ cZ cG H.size a_this a_this_lows a_this_highs a_this_rights a_this_terms a_this_costs a_this_froms a_this_tos a_this_planPoint a_this_planScore a_this_frontPlan a_this_frontTies a_this_pick a_this_end a_this_point a_this_score a_this_by a_this_four a_this_isNear a_this_number a_this_numbers a_this_place a_this_was c_this_aims c_this_columns c_this_front c_this_gone c_this_hasClimbed c_this_picks c_this_planScore c_this_plans c_this_rows x1 (c_this_frontPlan_5 ((v3_5 - (1 : Int32))).toNatClampNeg) _ hw) (cwV 2 K.2.2.2.2.1 gX7_lay_X7_before rfl rfl rfl (by decide +kernel) ⟨by decide, by decide⟩) rfl rfl (Nat.le_of_ble_eq_true rfl) ⟨Nat.zero_le _, Nat.zero_le _⟩ dX7_lay_19) (fun r_19 H locs hw hG => ?_)
        refine lv_if_eq (tgt := 59) K.1 K.2.1 dX7_lay_22 (by decide) (fun q_22 => ?_) (fun q_22 => ?_)
        · have hw := hw.1 q_22
          exact hX_5 v3_5 c_this_frontPlan_5 c_this_frontTies_5 H locs ls hw hG (lv_sub hl [0, 1, 2, 3] rfl)
        · have hw := hw.2 q_22
          refine lv_aload_n K.1 K.2.1 dX7_lay_25 rfl (lv_at hl 0 rfl) ?_
          refine g_get (v := .ref a_this_frontPlan) K hG hin_RX7 0 rfl rfl 15 (by decide) (K.2.2.2.2.1 (.fieldLink RX7 37 "AimFrontsModel" "frontPlan" "[I") (by decide +kernel)) rfl rfl dX7_lay_26 ?_
          refine lv_iload_n K.1 K.2.1 dX7_lay_29 rfl (lv_at hl 3 rfl) ?_
          refine lv_aload_n K.1 K.2.1 dX7_lay_30 rfl (lv_at hl 0 rfl) ?_
          refine g_get (v := .ref a_this_frontPlan) K hG hin_RX7 0 rfl rfl 15 (by decide) (K.2.2.2.2.1 (.fieldLink RX7 37 "AimFrontsModel" "frontPlan" "[I") (by decide +kernel)) rfl rfl dX7_lay_31 ?_
          refine lv_iload_n K.1 K.2.1 dX7_lay_34 rfl (lv_at hl 3 rfl) ?_
          refine lv_iconst (v := 1) K.1 K.2.1 dX7_lay_35 (by decide) ?_
          refine lv_isub K.1 K.2.1 dX7_lay_36 ?_
          obtain ⟨h_37, hw⟩ := hw
          refine g_iald K hG 1 rfl h_37 dX7_lay_37 ?_
          obtain ⟨h_38, hw⟩ := hw
          refine g_iast (ws' := [(a_this, .inr (6, [.int c_this_columns, .int c_this_rows, .int c_this_aims, .ref a_this_lows, .ref a_this_highs, .ref a_this_rights, .ref a_this_terms, .ref a_this_costs, .ref a_this_froms, .ref a_this_tos, .int c_this_gone, .int c_this_plans, .ref a_this_planPoint, .ref a_this_planScore, .int c_this_front, .ref a_this_frontPlan, .ref a_this_frontTies, .int c_this_picks, .ref a_this_pick, .int c_this_hasClimbed, .ref a_this_end, .ref a_this_point, .ref a_this_score, .ref a_this_by, .ref a_this_four, .ref a_this_isNear, .ref a_this_number, .ref a_this_numbers, .ref a_this_place, .ref a_this_was])), (a_this_frontPlan, .inl (cI, 2000, .inl (upd c_this_frontPlan_5 (v3_5).toNatClampNeg (c_this_frontPlan_5 ((v3_5 - (1 : Int32))).toNatClampNeg)))), (a_this_frontTies, .inl (cI, 2000, .inl c_this_frontTies_5)), (a_this_planScore, .inl (cI, 8000, .inl c_this_planScore))]) K hG 1 rfl h_38 rfl dX7_lay_38 (fun H locs hG => ?_)
          refine lv_aload_n K.1 K.2.1 dX7_lay_39 rfl (lv_at hl 0 rfl) ?_
          refine g_get (v := .ref a_this_frontTies) K hG hin_RX7 0 rfl rfl 16 (by decide) (K.2.2.2.2.1 (.fieldLink RX7 40 "AimFrontsModel" "frontTies" "[I") (by decide +kernel)) rfl rfl dX7_lay_40 ?_
          refine lv_iload_n K.1 K.2.1 dX7_lay_43 rfl (lv_at hl 3 rfl) ?_
          refine lv_aload_n K.1 K.2.1 dX7_lay_44 rfl (lv_at hl 0 rfl) ?_
          refine g_get (v := .ref a_this_frontTies) K hG hin_RX7 0 rfl rfl 16 (by decide) (K.2.2.2.2.1 (.fieldLink RX7 40 "AimFrontsModel" "frontTies" "[I") (by decide +kernel)) rfl rfl dX7_lay_45 ?_
          refine lv_iload_n K.1 K.2.1 dX7_lay_48 rfl (lv_at hl 3 rfl) ?_
          refine lv_iconst (v := 1) K.1 K.2.1 dX7_lay_49 (by decide) ?_
          refine lv_isub K.1 K.2.1 dX7_lay_50 ?_
          obtain ⟨h_51, hw⟩ := hw
          refine g_iald K hG 2 rfl h_51 dX7_lay_51 ?_
          obtain ⟨h_52, hw⟩ := hw
          refine g_iast (ws' := [(a_this, .inr (6, [.int c_this_columns, .int c_this_rows, .int c_this_aims, .ref a_this_lows, .ref a_this_highs, .ref a_this_rights, .ref a_this_terms, .ref a_this_costs, .ref a_this_froms, .ref a_this_tos, .int c_this_gone, .int c_this_plans, .ref a_this_planPoint, .ref a_this_planScore, .int c_this_front, .ref a_this_frontPlan, .ref a_this_frontTies, .int c_this_picks, .ref a_this_pick, .int c_this_hasClimbed, .ref a_this_end, .ref a_this_point, .ref a_this_score, .ref a_this_by, .ref a_this_four, .ref a_this_isNear, .ref a_this_number, .ref a_this_numbers, .ref a_this_place, .ref a_this_was])), (a_this_frontPlan, .inl (cI, 2000, .inl (upd c_this_frontPlan_5 (v3_5).toNatClampNeg (c_this_frontPlan_5 ((v3_5 - (1 : Int32))).toNatClampNeg)))), (a_this_frontTies, .inl (cI, 2000, .inl (upd c_this_frontTies_5 (v3_5).toNatClampNeg (c_this_frontTies_5 ((v3_5 - (1 : Int32))).toNatClampNeg)))), (a_this_planScore, .inl (cI, 8000, .inl c_this_planScore))]) K hG 2 rfl h_52 rfl dX7_lay_52 (fun H locs hG => ?_)
          refine lv_iinc (v := (v3_5 + (-1 : Int32))) (lv' := [(3, .int (v3_5 + (-1 : Int32))), (0, .ref a_this), (1, .int x1), (2, .int x2)]) K.1 K.2.1 dX7_lay_53 hl (k := 3) rfl rfl (by decide) rfl (fun ls hl => ?_)
          refine lv_goto (tgt := 5) K.1 K.2.1 dX7_lay_56 (by decide) ?_
          exact ih_5 (v3_5 + (-1 : Int32)) (upd c_this_frontPlan_5 (v3_5).toNatClampNeg (c_this_frontPlan_5 ((v3_5 - (1 : Int32))).toNatClampNeg)) (upd c_this_frontTies_5 (v3_5).toNatClampNeg (c_this_frontTies_5 ((v3_5 - (1 : Int32))).toNatClampNeg)) H locs ls hw hG (lv_sub hl [1, 2, 3, 0] rfl)
  exact hL_5 n_5 c_this_front c_this_frontPlan c_this_frontTies H locs ls hw hG (lv_sub hl [1, 2, 3, 0] rfl)

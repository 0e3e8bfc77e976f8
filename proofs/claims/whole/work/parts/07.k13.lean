abbrev rm_X7_left : Room := { frames := 1, cells := 0, slots := 0, locals := 22 }
set_option maxHeartbeats 4000000 in
set_option maxRecDepth 100000 in
theorem k_X7_left (l : Launch) (dC : Nat → ClassId) (dI : Nat → Nat → Nat) (cI cJ cZ cG : ClassId) (sz : Nat) (a_this a_this_lows a_this_highs a_this_rights a_this_terms a_this_costs a_this_froms a_this_tos a_this_planPoint a_this_planScore a_this_frontPlan a_this_frontTies a_this_pick a_this_end a_this_point a_this_score a_this_by a_this_four a_this_isNear a_this_number a_this_numbers a_this_place a_this_was : Nat) (c_this_aims : Int32) (c_this_columns : Int32) (c_this_front : Int32) (c_this_gone : Int32) (c_this_hasClimbed : Int32) (c_this_highs : Nat → Int32) (c_this_lows : Nat → Int32) (c_this_picks : Int32) (c_this_plans : Int32) (c_this_rows : Int32) (post : Int32 → Prop) (hw : wp_X7_left c_this_columns c_this_gone c_this_highs c_this_lows post) : MetI l yX7_left wsX7_left rm_X7_left (dC, dI) cI cJ cZ cG [.ref a_this] sz [(a_this, .inr (6, [.int c_this_columns, .int c_this_rows, .int c_this_aims, .ref a_this_lows, .ref a_this_highs, .ref a_this_rights, .ref a_this_terms, .ref a_this_costs, .ref a_this_froms, .ref a_this_tos, .int c_this_gone, .int c_this_plans, .ref a_this_planPoint, .ref a_this_planScore, .int c_this_front, .ref a_this_frontPlan, .ref a_this_frontTies, .int c_this_picks, .ref a_this_pick, .int c_this_hasClimbed, .ref a_this_end, .ref a_this_point, .ref a_this_score, .ref a_this_by, .ref a_this_four, .ref a_this_isNear, .ref a_this_number, .ref a_this_numbers, .ref a_this_place, .ref a_this_was])), (a_this_highs, .inl (cI, 8, .inl c_this_highs)), (a_this_lows, .inl (cI, 8, .inl c_this_lows))] (fun (r : Int32) (u : Unit) => post r) (fun u => [(a_this, .inr (6, [.int c_this_columns, .int c_this_rows, .int c_this_aims, .ref a_this_lows, .ref a_this_highs, .ref a_this_rights, .ref a_this_terms, .ref a_this_costs, .ref a_this_froms, .ref a_this_tos, .int c_this_gone, .int c_this_plans, .ref a_this_planPoint, .ref a_this_planScore, .int c_this_front, .ref a_this_frontPlan, .ref a_this_frontTies, .int c_this_picks, .ref a_this_pick, .int c_this_hasClimbed, .ref a_this_end, .ref a_this_point, .ref a_this_score, .ref a_this_by, .ref a_this_four, .ref a_this_isNear, .ref a_this_number, .ref a_this_numbers, .ref a_this_place, .ref a_this_was])), (a_this_highs, .inl (cI, 8, .inl c_this_highs)), (a_this_lows, .inl (cI, 8, .inl c_this_lows))]) := by
  refine met_i (ty := .int) (Or.inl rfl) (cc := cX7_left) (maxL := 1) (by decide) rfl (Nat.le_of_ble_eq_true rfl) ?_
  intro p e s m args below meth c A Q H locs ls K hG hl hret
  have hl : lv_has ls 1 [(0, .ref a_this)] := hl
  have hin_RX7 : ∀ w ∈ u_ws RX7 TX7 30, w ∈ wsX7_left := by decide +kernel
  unfold wp_X7_left at hw
  refine lv_aload_n K.1 K.2.1 dX7_left_0 rfl (lv_at hl 0 rfl) ?_
  refine g_ri K hG [0, 1, 2] rfl (g_runV (As := []) (rest := []) K hG hl [0, 1, 2] rfl rfl 0 rfl rfl (k_X7_points l dC dI cI cJ cZ cG H.size a_this a_this_lows a_this_highs a_this_rights a_this_terms a_this_costs a_this_froms a_this_tos a_this_planPoint a_this_planScore a_this_frontPlan a_this_frontTies a_this_pick a_this_end a_this_point a_this_score a_this_by a_this_four a_this_isNear a_this_number a_this_numbers a_this_place a_this_was c_this_aims c_this_columns c_this_front c_this_gone c_this_hasClimbed c_this_highs c_this_lows c_this_picks c_this_plans c_this_rows _ hw) (cwV 0 K.2.2.2.2.1 gX7_left_X7_points rfl rfl rfl (by decide +kernel) ⟨by decide, by decide⟩) rfl rfl (Nat.le_of_ble_eq_true rfl) ⟨Nat.zero_le _, Nat.zero_le _⟩ dX7_left_1) (fun r_1 H locs hw hG => ?_)
  refine lv_aload_n K.1 K.2.1 dX7_left_4 rfl (lv_at hl 0 rfl) ?_
  refine g_get (v := .int c_this_gone) K hG hin_RX7 0 rfl rfl 10 (by decide) (K.2.2.2.2.1 (.fieldLink RX7 92 "AimFrontsModel" "gone" "I") (by decide +kernel)) rfl rfl dX7_left_5 ?_
  refine lv_isub K.1 K.2.1 dX7_left_8 ?_
  exact hret (r_1 - c_this_gone) () H locs _ ls dX7_left_9 rfl hw hG
abbrev rm_X7_plans : Room := { frames := 0, cells := 0, slots := 0, locals := 0 }
set_option maxHeartbeats 4000000 in
set_option maxRecDepth 100000 in
theorem k_X7_plans (l : Launch) (dC : Nat → ClassId) (dI : Nat → Nat → Nat) (cI cJ cZ cG : ClassId) (sz : Nat) (a_this a_this_lows a_this_highs a_this_rights a_this_terms a_this_costs a_this_froms a_this_tos a_this_planPoint a_this_planScore a_this_frontPlan a_this_frontTies a_this_pick a_this_end a_this_point a_this_score a_this_by a_this_four a_this_isNear a_this_number a_this_numbers a_this_place a_this_was : Nat) (c_this_aims : Int32) (c_this_columns : Int32) (c_this_front : Int32) (c_this_gone : Int32) (c_this_hasClimbed : Int32) (c_this_picks : Int32) (c_this_plans : Int32) (c_this_rows : Int32) (post : Int32 → Prop) (hw : wp_X7_plans c_this_plans post) : MetI l yX7_plans wsX7_plans rm_X7_plans (dC, dI) cI cJ cZ cG [.ref a_this] sz [(a_this, .inr (6, [.int c_this_columns, .int c_this_rows, .int c_this_aims, .ref a_this_lows, .ref a_this_highs, .ref a_this_rights, .ref a_this_terms, .ref a_this_costs, .ref a_this_froms, .ref a_this_tos, .int c_this_gone, .int c_this_plans, .ref a_this_planPoint, .ref a_this_planScore, .int c_this_front, .ref a_this_frontPlan, .ref a_this_frontTies, .int c_this_picks, .ref a_this_pick, .int c_this_hasClimbed, .ref a_this_end, .ref a_this_point, .ref a_this_score, .ref a_this_by, .ref a_this_four, .ref a_this_isNear, .ref a_this_number, .ref a_this_numbers, .ref a_this_place, .ref a_this_was]))] (fun (r : Int32) (u : Unit) => post r) (fun u => [(a_this, .inr (6, [.int c_this_columns, .int c_this_rows, .int c_this_aims, .ref a_this_lows, .ref a_this_highs, .ref a_this_rights, .ref a_this_terms, .ref a_this_costs, .ref a_this_froms, .ref a_this_tos, .int c_this_gone, .int c_this_plans, .ref a_this_planPoint, .ref a_this_planScore, .int c_this_front, .ref a_this_frontPlan, .ref a_this_frontTies, .int c_this_picks, .ref a_this_pick, .int c_this_hasClimbed, .ref a_this_end, .ref a_this_point, .ref a_this_score, .ref a_this_by, .ref a_this_four, .ref a_this_isNear, .ref a_this_number, .ref a_this_numbers, .ref a_this_place, .ref a_this_was]))]) := by
  refine met_i (ty := .int) (Or.inl rfl) (cc := cX7_plans) (maxL := 1) (by decide) rfl (Nat.le_of_ble_eq_true rfl) ?_
  intro p e s m args below meth c A Q H locs ls K hG hl hret
  have hl : lv_has ls 1 [(0, .ref a_this)] := hl
  have hin_RX7 : ∀ w ∈ u_ws RX7 TX7 30, w ∈ wsX7_plans := by decide +kernel
  unfold wp_X7_plans at hw
  refine lv_aload_n K.1 K.2.1 dX7_plans_0 rfl (lv_at hl 0 rfl) ?_
  refine g_get (v := .int c_this_plans) K hG hin_RX7 0 rfl rfl 11 (by decide) (K.2.2.2.2.1 (.fieldLink RX7 95 "AimFrontsModel" "plans" "I") (by decide +kernel)) rfl rfl dX7_plans_1 ?_
  exact hret c_this_plans () H locs _ ls dX7_plans_4 rfl hw hG
abbrev rm_X7_at : Room := { frames := 1, cells := 0, slots := 0, locals := 22 }
set_option maxHeartbeats 4000000 in
set_option maxRecDepth 100000 in
theorem k_X7_at (l : Launch) (dC : Nat → ClassId) (dI : Nat → Nat → Nat) (cI cJ cZ cG : ClassId) (sz : Nat) (a_this a_this_lows a_this_highs a_this_rights a_this_terms a_this_costs a_this_froms a_this_tos a_this_planPoint a_this_planScore a_this_frontPlan a_this_frontTies a_this_pick a_this_end a_this_point a_this_score a_this_by a_this_four a_this_isNear a_this_number a_this_numbers a_this_place a_this_was : Nat) (c_this_aims : Int32) (c_this_columns : Int32) (c_this_front : Int32) (c_this_frontPlan : Nat → Int32) (c_this_gone : Int32) (c_this_hasClimbed : Int32) (c_this_picks : Int32) (c_this_planScore : Nat → Int32) (c_this_plans : Int32) (c_this_rows : Int32) (x1 : Int32) (x2 : Int32) (post : Int32 → Prop) (hw : wp_X7_at c_this_frontPlan c_this_planScore x1 x2 post) : MetI l yX7_at wsX7_at rm_X7_at (dC, dI) cI cJ cZ cG [.ref a_this, .int x1, .int x2] sz [(a_this, .inr (6, [.int c_this_columns, .int c_this_rows, .int c_this_aims, .ref a_this_lows, .ref a_this_highs, .ref a_this_rights, .ref a_this_terms, .ref a_this_costs, .ref a_this_froms, .ref a_this_tos, .int c_this_gone, .int c_this_plans, .ref a_this_planPoint, .ref a_this_planScore, .int c_this_front, .ref a_this_frontPlan, .ref a_this_frontTies, .int c_this_picks, .ref a_this_pick, .int c_this_hasClimbed, .ref a_this_end, .ref a_this_point, .ref a_this_score, .ref a_this_by, .ref a_this_four, .ref a_this_isNear, .ref a_this_number, .ref a_this_numbers, .ref a_this_place, .ref a_this_was])), (a_this_frontPlan, .inl (cI, 2000, .inl c_this_frontPlan)), (a_this_planScore, .inl (cI, 8000, .inl c_this_planScore))] (fun (r : Int32) (u : Unit) => post r) (fun u => [(a_this, .inr (6, [.int c_this_columns, .int c_this_rows, .int c_this_aims, .ref a_this_lows, .ref a_this_highs, .ref a_this_rights, .ref a_this_terms, .ref a_this_costs, .ref a_this_froms, .ref a_this_tos, .int c_this_gone, .int c_this_plans, .ref a_this_planPoint, .ref a_this_planScore, .int c_this_front, .ref a_this_frontPlan, .ref a_this_frontTies, .int c_this_picks, .ref a_this_pick, .int c_this_hasClimbed, .ref a_this_end, .ref a_this_point, .ref a_this_score, .ref a_this_by, .ref a_this_four, .ref a_this_isNear, .ref a_this_number, .ref a_this_numbers, .ref a_this_place, .ref a_this_was])), (a_this_frontPlan, .inl (cI, 2000, .inl c_this_frontPlan)), (a_this_planScore, .inl (cI, 8000, .inl c_this_planScore))]) := by
  refine met_i (ty := .int) (Or.inl rfl) (cc := cX7_at) (maxL := 3) (by decide) rfl (Nat.le_of_ble_eq_true rfl) ?_
  intro p e s m args below meth c A Q H locs ls K hG hl hret
  have hl : lv_has ls 3 [(0, .ref a_this), (1, .int x1), (2, .int x2)] := hl
  have hin_RX7 : ∀ w ∈ u_ws RX7 TX7 30, w ∈ wsX7_at := by decide +kernel
  unfold wp_X7_at at hw
  refine lv_aload_n K.1 K.2.1 dX7_at_0 rfl (lv_at hl 0 rfl) ?_
  refine lv_aload_n K.1 K.2.1 dX7_at_1 rfl (lv_at hl 0 rfl) ?_
  refine g_get (v := .ref a_this_frontPlan) K hG hin_RX7 0 rfl rfl 15 (by decide) (K.2.2.2.2.1 (.fieldLink RX7 37 "AimFrontsModel" "frontPlan" "[I") (by decide +kernel)) rfl rfl dX7_at_2 ?_
  refine lv_iload_n K.1 K.2.1 dX7_at_5 rfl (lv_at hl 1 rfl) ?_
  obtain ⟨h_6, hw⟩ := hw
  refine g_iald K hG 1 rfl h_6 dX7_at_6 ?_
  refine lv_iload_n K.1 K.2.1 dX7_at_7 rfl (lv_at hl 2 rfl) ?_
  refine g_ri K hG [0, 2] rfl (g_runV (As := [.int (c_this_frontPlan (x1).toNatClampNeg), .int x2]) (rest := []) K hG hl [0, 2] rfl rfl 0 rfl rfl (k_X7_of l dC dI cI cJ cZ cG H.size a_this a_this_lows a_this_highs a_this_rights a_this_terms a_this_costs a_this_froms a_this_tos a_this_planPoint a_this_planScore a_this_frontPlan a_this_frontTies a_this_pick a_this_end a_this_point a_this_score a_this_by a_this_four a_this_isNear a_this_number a_this_numbers a_this_place a_this_was c_this_aims c_this_columns c_this_front c_this_gone c_this_hasClimbed c_this_picks c_this_planScore c_this_plans c_this_rows (c_this_frontPlan (x1).toNatClampNeg) x2 _ hw) (cwV 2 K.2.2.2.2.1 gX7_at_X7_of rfl rfl rfl (by decide +kernel) ⟨by decide, by decide⟩) rfl rfl (Nat.le_of_ble_eq_true rfl) ⟨Nat.zero_le _, Nat.zero_le _⟩ dX7_at_8) (fun r_8 H locs hw hG => ?_)
  exact hret r_8 () H locs _ ls dX7_at_11 rfl hw hG
abbrev rm_X7_isScore : Room := { frames := 1, cells := 0, slots := 0, locals := 25 }
set_option maxHeartbeats 4000000 in
set_option maxRecDepth 100000 in
theorem k_X7_isScore (l : Launch) (dC : Nat → ClassId) (dI : Nat → Nat → Nat) (cI cJ cZ cG : ClassId) (sz : Nat) (a_this a_this_lows a_this_highs a_this_rights a_this_terms a_this_costs a_this_froms a_this_tos a_this_planPoint a_this_planScore a_this_frontPlan a_this_frontTies a_this_pick a_this_end a_this_point a_this_score a_this_by a_this_four a_this_isNear a_this_number a_this_numbers a_this_place a_this_was : Nat) (c_this_aims : Int32) (c_this_columns : Int32) (c_this_front : Int32) (c_this_gone : Int32) (c_this_hasClimbed : Int32) (c_this_picks : Int32) (c_this_plans : Int32) (c_this_rows : Int32) (x1 : Int32) (post : Int32 → Prop) (hw : wp_X7_isScore c_this_front x1 post) : MetI l yX7_isScore wsX7_isScore rm_X7_isScore (dC, dI) cI cJ cZ cG [.ref a_this, .int x1] sz [(a_this, .inr (6, [.int c_this_columns, .int c_this_rows, .int c_this_aims, .ref a_this_lows, .ref a_this_highs, .ref a_this_rights, .ref a_this_terms, .ref a_this_costs, .ref a_this_froms, .ref a_this_tos, .int c_this_gone, .int c_this_plans, .ref a_this_planPoint, .ref a_this_planScore, .int c_this_front, .ref a_this_frontPlan, .ref a_this_frontTies, .int c_this_picks, .ref a_this_pick, .int c_this_hasClimbed, .ref a_this_end, .ref a_this_point, .ref a_this_score, .ref a_this_by, .ref a_this_four, .ref a_this_isNear, .ref a_this_number, .ref a_this_numbers, .ref a_this_place, .ref a_this_was]))] (fun (r : Int32) (u : Unit) => post r) (fun u => [(a_this, .inr (6, [.int c_this_columns, .int c_this_rows, .int c_this_aims, .ref a_this_lows, .ref a_this_highs, .ref a_this_rights, .ref a_this_terms, .ref a_this_costs, .ref a_this_froms, .ref a_this_tos, .int c_this_gone, .int c_this_plans, .ref a_this_planPoint, .ref a_this_planScore, .int c_this_front, .ref a_this_frontPlan, .ref a_this_frontTies, .int c_this_picks, .ref a_this_pick, .int c_this_hasClimbed, .ref a_this_end, .ref a_this_point, .ref a_this_score, .ref a_this_by, .ref a_this_four, .ref a_this_isNear, .ref a_this_number, .ref a_this_numbers, .ref a_this_place, .ref a_this_was]))]) := by
  refine met_i (ty := .boolean) (Or.inr rfl) (cc := cX7_isScore) (maxL := 2) (by decide) rfl (Nat.le_of_ble_eq_true rfl) ?_
  intro p e s m args below meth c A Q H locs ls K hG hl hret
  have hl : lv_has ls 2 [(0, .ref a_this), (1, .int x1)] := hl
  have hin_RX7 : ∀ w ∈ u_ws RX7 TX7 30, w ∈ wsX7_isScore := by decide +kernel
  unfold wp_X7_isScore at hw
  refine lv_iload_n K.1 K.2.1 dX7_isScore_0 rfl (lv_at hl 1 rfl) ?_
  refine lv_i2l K.1 K.2.1 dX7_isScore_1 rfl ?_
  refine lv_lconst (v := 0) K.1 K.2.1 dX7_isScore_2 (by decide) ?_
  refine lv_aload_n K.1 K.2.1 dX7_isScore_3 rfl (lv_at hl 0 rfl) ?_
  refine g_get (v := .int c_this_front) K hG hin_RX7 0 rfl rfl 14 (by decide) (K.2.2.2.2.1 (.fieldLink RX7 98 "AimFrontsModel" "front" "I") (by decide +kernel)) rfl rfl dX7_isScore_4 ?_
  refine lv_iconst (v := 1) K.1 K.2.1 dX7_isScore_7 (by decide) ?_
  refine lv_isub K.1 K.2.1 dX7_isScore_8 ?_
  refine lv_i2l K.1 K.2.1 dX7_isScore_9 rfl ?_
  refine g_ri K hG [] rfl (g_runS (As := [.long (x1.toInt64), .long (0 : Int64), .long (((c_this_front - (1 : Int32))).toInt64)]) (rest := []) K hG hl [] rfl rfl (k_X7_in l dC dI cI cJ cZ cG H.size (x1.toInt64) (0 : Int64) (((c_this_front - (1 : Int32))).toInt64) _ hw) (va_cwS 3 K.2.2.2.2.1 gX7_isScore_X7_in rfl rfl rfl (by decide +kernel) ⟨by decide, by decide⟩) rfl rfl (Nat.le_of_ble_eq_true rfl) ⟨Nat.zero_le _, Nat.zero_le _⟩ dX7_isScore_10) (fun r_10 H locs hw hG => ?_)
  exact hret r_10 () H locs _ ls dX7_isScore_13 hw.1 hw.2 hG
abbrev rm_X7_score : Room := { frames := 2, cells := 0, slots := 0, locals := 46 }
set_option maxHeartbeats 4000000 in
set_option maxRecDepth 100000 in
theorem k_X7_score (l : Launch) (dC : Nat → ClassId) (dI : Nat → Nat → Nat) (cI cJ cZ cG : ClassId) (sz : Nat) (a_this a_this_lows a_this_highs a_this_rights a_this_terms a_this_costs a_this_froms a_this_tos a_this_planPoint a_this_planScore a_this_frontPlan a_this_frontTies a_this_pick a_this_end a_this_point a_this_score a_this_by a_this_four a_this_isNear a_this_number a_this_numbers a_this_place a_this_was : Nat) (c_this_aims : Int32) (c_this_columns : Int32) (c_this_front : Int32) (c_this_frontPlan : Nat → Int32) (c_this_gone : Int32) (c_this_hasClimbed : Int32) (c_this_picks : Int32) (c_this_planScore : Nat → Int32) (c_this_plans : Int32) (c_this_rows : Int32) (x1 : Int32) (x2 : Int32) (post : Int32 → Prop) (hw : wp_X7_score c_this_aims c_this_front c_this_frontPlan c_this_planScore x1 x2 post) : MetI l yX7_score wsX7_score rm_X7_score (dC, dI) cI cJ cZ cG [.ref a_this, .int x1, .int x2] sz [(a_this, .inr (6, [.int c_this_columns, .int c_this_rows, .int c_this_aims, .ref a_this_lows, .ref a_this_highs, .ref a_this_rights, .ref a_this_terms, .ref a_this_costs, .ref a_this_froms, .ref a_this_tos, .int c_this_gone, .int c_this_plans, .ref a_this_planPoint, .ref a_this_planScore, .int c_this_front, .ref a_this_frontPlan, .ref a_this_frontTies, .int c_this_picks, .ref a_this_pick, .int c_this_hasClimbed, .ref a_this_end, .ref a_this_point, .ref a_this_score, .ref a_this_by, .ref a_this_four, .ref a_this_isNear, .ref a_this_number, .ref a_this_numbers, .ref a_this_place, .ref a_this_was])), (a_this_frontPlan, .inl (cI, 2000, .inl c_this_frontPlan)), (a_this_planScore, .inl (cI, 8000, .inl c_this_planScore))] (fun (r : Int32) (u : Unit) => post r) (fun u => [(a_this, .inr (6, [.int c_this_columns, .int c_this_rows, .int c_this_aims, .ref a_this_lows, .ref a_this_highs, .ref a_this_rights, .ref a_this_terms, .ref a_this_costs, .ref a_this_froms, .ref a_this_tos, .int c_this_gone, .int c_this_plans, .ref a_this_planPoint, .ref a_this_planScore, .int c_this_front, .ref a_this_frontPlan, .ref a_this_frontTies, .int c_this_picks, .ref a_this_pick, .int c_this_hasClimbed, .ref a_this_end, .ref a_this_point, .ref a_this_score, .ref a_this_by, .ref a_this_four, .ref a_this_isNear, .ref a_this_number, .ref a_this_numbers, .ref a_this_place, .ref a_this_was])), (a_this_frontPlan, .inl (cI, 2000, .inl c_this_frontPlan)), (a_this_planScore, .inl (cI, 8000, .inl c_this_planScore))]) := by
  refine met_i (ty := .int) (Or.inl rfl) (cc := cX7_score) (maxL := 3) (by decide) rfl (Nat.le_of_ble_eq_true rfl) ?_
  intro p e s m args below meth c A Q H locs ls K hG hl hret
  have hl : lv_has ls 3 [(0, .ref a_this), (1, .int x1), (2, .int x2)] := hl
  have hin_RX7 : ∀ w ∈ u_ws RX7 TX7 30, w ∈ wsX7_score := by decide +kernel
  unfold wp_X7_score at hw
  refine lv_aload_n K.1 K.2.1 dX7_score_0 rfl (lv_at hl 0 rfl) ?_
  refine lv_iload_n K.1 K.2.1 dX7_score_1 rfl (lv_at hl 1 rfl) ?_
  refine g_ri K hG [0] rfl (g_runV (As := [.int x1]) (rest := []) K hG hl [0] rfl rfl 0 rfl rfl (k_X7_isScore l dC dI cI cJ cZ cG H.size a_this a_this_lows a_this_highs a_this_rights a_this_terms a_this_costs a_this_froms a_this_tos a_this_planPoint a_this_planScore a_this_frontPlan a_this_frontTies a_this_pick a_this_end a_this_point a_this_score a_this_by a_this_four a_this_isNear a_this_number a_this_numbers a_this_place a_this_was c_this_aims c_this_columns c_this_front c_this_gone c_this_hasClimbed c_this_picks c_this_plans c_this_rows x1 _ hw) (cwV 1 K.2.2.2.2.1 gX7_score_X7_isScore rfl rfl rfl (by decide +kernel) ⟨by decide, by decide⟩) rfl rfl (Nat.le_of_ble_eq_true rfl) ⟨Nat.zero_le _, Nat.zero_le _⟩ dX7_score_2) (fun r_2 H locs hw hG => ?_)
  refine lv_if_eq (tgt := 25) K.1 K.2.1 dX7_score_5 (by decide) (fun q_5 => ?_) (fun q_5 => ?_)
  · have hw := hw.1 q_5
    refine lv_ldc (v := -1000001) K.1 K.2.1 K.2.2.2.1 (K.2.2.2.2.1 (.constant RX7 112 (-1000001)) (by decide +kernel)) dX7_score_25 ?_
    exact hret (-1000001 : Int32) () H locs _ ls dX7_score_27 rfl hw hG
  · have hw := hw.2 q_5
    refine lv_aload_n K.1 K.2.1 dX7_score_8 rfl (lv_at hl 0 rfl) ?_
    refine lv_iload_n K.1 K.2.1 dX7_score_9 rfl (lv_at hl 2 rfl) ?_
    refine g_ri K hG [0] rfl (g_runV (As := [.int x2]) (rest := []) K hG hl [0] rfl rfl 0 rfl rfl (k_X7_isAim l dC dI cI cJ cZ cG H.size a_this a_this_lows a_this_highs a_this_rights a_this_terms a_this_costs a_this_froms a_this_tos a_this_planPoint a_this_planScore a_this_frontPlan a_this_frontTies a_this_pick a_this_end a_this_point a_this_score a_this_by a_this_four a_this_isNear a_this_number a_this_numbers a_this_place a_this_was c_this_aims c_this_columns c_this_front c_this_gone c_this_hasClimbed c_this_picks c_this_plans c_this_rows x2 _ hw) (cwV 1 K.2.2.2.2.1 gX7_score_X7_isAim rfl rfl rfl (by decide +kernel) ⟨by decide, by decide⟩) rfl rfl (Nat.le_of_ble_eq_true rfl) ⟨Nat.zero_le _, Nat.zero_le _⟩ dX7_score_10) (fun r_10 H locs hw hG => ?_)
    refine lv_if_eq (tgt := 25) K.1 K.2.1 dX7_score_13 (by decide) (fun q_13 => ?_) (fun q_13 => ?_)
    · have hw := hw.1 q_13
      refine lv_ldc (v := -1000001) K.1 K.2.1 K.2.2.2.1 (K.2.2.2.2.1 (.constant RX7 112 (-1000001)) (by decide +kernel)) dX7_score_25 ?_
      exact hret (-1000001 : Int32) () H locs _ ls dX7_score_27 rfl hw hG
    · have hw := hw.2 q_13
      refine lv_aload_n K.1 K.2.1 dX7_score_16 rfl (lv_at hl 0 rfl) ?_
      refine lv_iload_n K.1 K.2.1 dX7_score_17 rfl (lv_at hl 1 rfl) ?_
      refine lv_iload_n K.1 K.2.1 dX7_score_18 rfl (lv_at hl 2 rfl) ?_
      refine g_ri K hG [0, 1, 2] rfl (g_runV (As := [.int x1, .int x2]) (rest := []) K hG hl [0, 1, 2] rfl rfl 0 rfl rfl (k_X7_at l dC dI cI cJ cZ cG H.size a_this a_this_lows a_this_highs a_this_rights a_this_terms a_this_costs a_this_froms a_this_tos a_this_planPoint a_this_planScore a_this_frontPlan a_this_frontTies a_this_pick a_this_end a_this_point a_this_score a_this_by a_this_four a_this_isNear a_this_number a_this_numbers a_this_place a_this_was c_this_aims c_this_columns c_this_front c_this_frontPlan c_this_gone c_this_hasClimbed c_this_picks c_this_planScore c_this_plans c_this_rows x1 x2 _ hw) (cwV 2 K.2.2.2.2.1 gX7_score_X7_at rfl rfl rfl (by decide +kernel) ⟨by decide, by decide⟩) rfl rfl (Nat.le_of_ble_eq_true rfl) ⟨Nat.zero_le _, Nat.zero_le _⟩ dX7_score_19) (fun r_19 H locs hw hG => ?_)
      refine lv_goto (tgt := 27) K.1 K.2.1 dX7_score_22 (by decide) ?_
      exact hret r_19 () H locs _ ls dX7_score_27 rfl hw hG
abbrev rm_X7_plan : Room := { frames := 2, cells := 0, slots := 0, locals := 46 }
set_option maxHeartbeats 4000000 in
set_option maxRecDepth 100000 in
theorem k_X7_plan (l : Launch) (dC : Nat → ClassId) (dI : Nat → Nat → Nat) (cI cJ cZ cG : ClassId) (sz : Nat) (a_this a_this_lows a_this_highs a_this_rights a_this_terms a_this_costs a_this_froms a_this_tos a_this_planPoint a_this_planScore a_this_frontPlan a_this_frontTies a_this_pick a_this_end a_this_point a_this_score a_this_by a_this_four a_this_isNear a_this_number a_this_numbers a_this_place a_this_was : Nat) (c_this_aims : Int32) (c_this_columns : Int32) (c_this_front : Int32) (c_this_frontPlan : Nat → Int32) (c_this_gone : Int32) (c_this_hasClimbed : Int32) (c_this_highs : Nat → Int32) (c_this_lows : Nat → Int32) (c_this_picks : Int32) (c_this_planPoint : Nat → Int32) (c_this_plans : Int32) (c_this_point : Nat → Int32) (c_this_rows : Int32) (x1 : Int32) (x2 : Int32) (post : Int32 → (Nat → Int32) → Prop) (hw : wp_X7_plan c_this_columns c_this_front c_this_frontPlan c_this_highs c_this_lows c_this_planPoint c_this_point x1 x2 post) : MetI l yX7_plan wsX7_plan rm_X7_plan (dC, dI) cI cJ cZ cG [.ref a_this, .int x1, .int x2] sz [(a_this, .inr (6, [.int c_this_columns, .int c_this_rows, .int c_this_aims, .ref a_this_lows, .ref a_this_highs, .ref a_this_rights, .ref a_this_terms, .ref a_this_costs, .ref a_this_froms, .ref a_this_tos, .int c_this_gone, .int c_this_plans, .ref a_this_planPoint, .ref a_this_planScore, .int c_this_front, .ref a_this_frontPlan, .ref a_this_frontTies, .int c_this_picks, .ref a_this_pick, .int c_this_hasClimbed, .ref a_this_end, .ref a_this_point, .ref a_this_score, .ref a_this_by, .ref a_this_four, .ref a_this_isNear, .ref a_this_number, .ref a_this_numbers, .ref a_this_place, .ref a_this_was])), (a_this_frontPlan, .inl (cI, 2000, .inl c_this_frontPlan)), (a_this_highs, .inl (cI, 8, .inl c_this_highs)), (a_this_lows, .inl (cI, 8, .inl c_this_lows)), (a_this_planPoint, .inl (cI, 2000, .inl c_this_planPoint)), (a_this_point, .inl (cI, 8, .inl c_this_point))] (fun (r : Int32) (u : (Nat → Int32)) => post r u) (fun u => [(a_this, .inr (6, [.int c_this_columns, .int c_this_rows, .int c_this_aims, .ref a_this_lows, .ref a_this_highs, .ref a_this_rights, .ref a_this_terms, .ref a_this_costs, .ref a_this_froms, .ref a_this_tos, .int c_this_gone, .int c_this_plans, .ref a_this_planPoint, .ref a_this_planScore, .int c_this_front, .ref a_this_frontPlan, .ref a_this_frontTies, .int c_this_picks, .ref a_this_pick, .int c_this_hasClimbed, .ref a_this_end, .ref a_this_point, .ref a_this_score, .ref a_this_by, .ref a_this_four, .ref a_this_isNear, .ref a_this_number, .ref a_this_numbers, .ref a_this_place, .ref a_this_was])), (a_this_frontPlan, .inl (cI, 2000, .inl c_this_frontPlan)), (a_this_highs, .inl (cI, 8, .inl c_this_highs)), (a_this_lows, .inl (cI, 8, .inl c_this_lows)), (a_this_planPoint, .inl (cI, 2000, .inl c_this_planPoint)), (a_this_point, .inl (cI, 8, .inl u))]) := by
  refine met_i (ty := .int) (Or.inl rfl) (cc := cX7_plan) (maxL := 3) (by decide) rfl (Nat.le_of_ble_eq_true rfl) ?_
  intro p e s m args below meth c A Q H locs ls K hG hl hret
  have hl : lv_has ls 3 [(0, .ref a_this), (1, .int x1), (2, .int x2)] := hl
  have hin_RX7 : ∀ w ∈ u_ws RX7 TX7 30, w ∈ wsX7_plan := by decide +kernel
  unfold wp_X7_plan at hw
  refine lv_aload_n K.1 K.2.1 dX7_plan_0 rfl (lv_at hl 0 rfl) ?_
  refine lv_iload_n K.1 K.2.1 dX7_plan_1 rfl (lv_at hl 1 rfl) ?_
  refine g_ri K hG [0] rfl (g_runV (As := [.int x1]) (rest := []) K hG hl [0] rfl rfl 0 rfl rfl (k_X7_isScore l dC dI cI cJ cZ cG H.size a_this a_this_lows a_this_highs a_this_rights a_this_terms a_this_costs a_this_froms a_this_tos a_this_planPoint a_this_planScore a_this_frontPlan a_this_frontTies a_this_pick a_this_end a_this_point a_this_score a_this_by a_this_four a_this_isNear a_this_number a_this_numbers a_this_place a_this_was c_this_aims c_this_columns c_this_front c_this_gone c_this_hasClimbed c_this_picks c_this_plans c_this_rows x1 _ hw) (cwV 1 K.2.2.2.2.1 gX7_plan_X7_isScore rfl rfl rfl (by decide +kernel) ⟨by decide, by decide⟩) rfl rfl (Nat.le_of_ble_eq_true rfl) ⟨Nat.zero_le _, Nat.zero_le _⟩ dX7_plan_2) (fun r_2 H locs hw hG => ?_)
  refine lv_if_eq (tgt := 16) K.1 K.2.1 dX7_plan_5 (by decide) (fun q_5 => ?_) (fun q_5 => ?_)
  · have hw := hw.1 q_5
    refine lv_ldc (v := -1000001) K.1 K.2.1 K.2.2.2.1 (K.2.2.2.2.1 (.constant RX7 112 (-1000001)) (by decide +kernel)) dX7_plan_16 ?_
    exact hret (-1000001 : Int32) c_this_point H locs _ ls dX7_plan_18 rfl hw hG
  · have hw := hw.2 q_5
    refine lv_aload_n K.1 K.2.1 dX7_plan_8 rfl (lv_at hl 0 rfl) ?_
    refine lv_iload_n K.1 K.2.1 dX7_plan_9 rfl (lv_at hl 2 rfl) ?_
    refine g_ri K hG [0] rfl (g_runV (As := [.int x2]) (rest := []) K hG hl [0] rfl rfl 0 rfl rfl (k_X7_isColumn l dC dI cI cJ cZ cG H.size a_this a_this_lows a_this_highs a_this_rights a_this_terms a_this_costs a_this_froms a_this_tos a_this_planPoint a_this_planScore a_this_frontPlan a_this_frontTies a_this_pick a_this_end a_this_point a_this_score a_this_by a_this_four a_this_isNear a_this_number a_this_numbers a_this_place a_this_was c_this_aims c_this_columns c_this_front c_this_gone c_this_hasClimbed c_this_picks c_this_plans c_this_rows x2 _ hw) (cwV 1 K.2.2.2.2.1 gX7_plan_X7_isColumn rfl rfl rfl (by decide +kernel) ⟨by decide, by decide⟩) rfl rfl (Nat.le_of_ble_eq_true rfl) ⟨Nat.zero_le _, Nat.zero_le _⟩ dX7_plan_10) (fun r_10 H locs hw hG => ?_)
    refine lv_if_ne (tgt := 19) K.1 K.2.1 dX7_plan_13 (by decide) (fun q_13 => ?_) (fun q_13 => ?_)
    · have hw := hw.2 q_13
      refine lv_aload_n K.1 K.2.1 dX7_plan_19 rfl (lv_at hl 0 rfl) ?_
      refine lv_aload_n K.1 K.2.1 dX7_plan_20 rfl (lv_at hl 0 rfl) ?_
      refine g_get (v := .ref a_this_planPoint) K hG hin_RX7 0 rfl rfl 12 (by decide) (K.2.2.2.2.1 (.fieldLink RX7 31 "AimFrontsModel" "planPoint" "[I") (by decide +kernel)) rfl rfl dX7_plan_21 ?_
      refine lv_aload_n K.1 K.2.1 dX7_plan_24 rfl (lv_at hl 0 rfl) ?_
      refine g_get (v := .ref a_this_frontPlan) K hG hin_RX7 0 rfl rfl 15 (by decide) (K.2.2.2.2.1 (.fieldLink RX7 37 "AimFrontsModel" "frontPlan" "[I") (by decide +kernel)) rfl rfl dX7_plan_25 ?_
      refine lv_iload_n K.1 K.2.1 dX7_plan_28 rfl (lv_at hl 1 rfl) ?_
      obtain ⟨h_29, hw⟩ := hw
      refine g_iald K hG 1 rfl h_29 dX7_plan_29 ?_
      obtain ⟨h_30, hw⟩ := hw
      refine g_iald K hG 4 rfl h_30 dX7_plan_30 ?_
      refine g_nv (w2 := (fun u => [(a_this, .inr (6, [.int c_this_columns, .int c_this_rows, .int c_this_aims, .ref a_this_lows, .ref a_this_highs, .ref a_this_rights, .ref a_this_terms, .ref a_this_costs, .ref a_this_froms, .ref a_this_tos, .int c_this_gone, .int c_this_plans, .ref a_this_planPoint, .ref a_this_planScore, .int c_this_front, .ref a_this_frontPlan, .ref a_this_frontTies, .int c_this_picks, .ref a_this_pick, .int c_this_hasClimbed, .ref a_this_end, .ref a_this_point, .ref a_this_score, .ref a_this_by, .ref a_this_four, .ref a_this_isNear, .ref a_this_number, .ref a_this_numbers, .ref a_this_place, .ref a_this_was])), (a_this_frontPlan, .inl (cI, 2000, .inl c_this_frontPlan)), (a_this_highs, .inl (cI, 8, .inl c_this_highs)), (a_this_lows, .inl (cI, 8, .inl c_this_lows)), (a_this_planPoint, .inl (cI, 2000, .inl c_this_planPoint)), (a_this_point, .inl (cI, 8, .inl u))])) (wr := [(a_this_frontPlan, .inl (cI, 2000, .inl c_this_frontPlan)), (a_this_planPoint, .inl (cI, 2000, .inl c_this_planPoint))]) K hG [0, 2, 3, 5] [1, 4] 6 rfl (g_runV (As := [.int (c_this_planPoint ((c_this_frontPlan (x1).toNatClampNeg)).toNatClampNeg)]) (rest := []) K hG hl [0, 2, 3, 5] rfl rfl 0 rfl rfl (k_X7_toPoint l dC dI cI cJ cZ cG H.size a_this a_this_lows a_this_highs a_this_rights a_this_terms a_this_costs a_this_froms a_this_tos a_this_planPoint a_this_planScore a_this_frontPlan a_this_frontTies a_this_pick a_this_end a_this_point a_this_score a_this_by a_this_four a_this_isNear a_this_number a_this_numbers a_this_place a_this_was c_this_aims c_this_columns c_this_front c_this_gone c_this_hasClimbed c_this_highs c_this_lows c_this_picks c_this_plans c_this_point c_this_rows (c_this_planPoint ((c_this_frontPlan (x1).toNatClampNeg)).toNatClampNeg) _ hw) (cwV 1 K.2.2.2.2.1 gX7_plan_X7_toPoint rfl rfl rfl (by decide +kernel) ⟨by decide, by decide⟩) rfl rfl (Nat.le_of_ble_eq_true rfl) ⟨Nat.zero_le _, Nat.zero_le _⟩ dX7_plan_31) (fun _ => rfl) (fun _ => rfl) rfl (fun _ => rfl) (fun _ => rfl) (by decide) (by decide) (by decide) (fun u H locs hw hG => ?_)
      obtain ⟨c_this_point_31, rfl⟩ : ∃ z, z = u := ⟨_, rfl⟩
      have hG : HW (dC, dI) A s.heap [(a_this, .inr (6, [.int c_this_columns, .int c_this_rows, .int c_this_aims, .ref a_this_lows, .ref a_this_highs, .ref a_this_rights, .ref a_this_terms, .ref a_this_costs, .ref a_this_froms, .ref a_this_tos, .int c_this_gone, .int c_this_plans, .ref a_this_planPoint, .ref a_this_planScore, .int c_this_front, .ref a_this_frontPlan, .ref a_this_frontTies, .int c_this_picks, .ref a_this_pick, .int c_this_hasClimbed, .ref a_this_end, .ref a_this_point, .ref a_this_score, .ref a_this_by, .ref a_this_four, .ref a_this_isNear, .ref a_this_number, .ref a_this_numbers, .ref a_this_place, .ref a_this_was])), (a_this_frontPlan, .inl (cI, 2000, .inl c_this_frontPlan)), (a_this_highs, .inl (cI, 8, .inl c_this_highs)), (a_this_lows, .inl (cI, 8, .inl c_this_lows)), (a_this_planPoint, .inl (cI, 2000, .inl c_this_planPoint)), (a_this_point, .inl (cI, 8, .inl c_this_point_31))] H locs := hG
      refine lv_aload_n K.1 K.2.1 dX7_plan_34 rfl (lv_at hl 0 rfl) ?_
      refine g_get (v := .ref a_this_point) K hG hin_RX7 0 rfl rfl 21 (by decide) (K.2.2.2.2.1 (.fieldLink RX7 49 "AimFrontsModel" "point" "[I") (by decide +kernel)) rfl rfl dX7_plan_35 ?_
      refine lv_iload_n K.1 K.2.1 dX7_plan_38 rfl (lv_at hl 2 rfl) ?_
      obtain ⟨h_39, hw⟩ := hw
      refine g_iald K hG 5 rfl h_39 dX7_plan_39 ?_
      exact hret (c_this_point_31 (x2).toNatClampNeg) c_this_point_31 H locs _ ls dX7_plan_40 rfl hw hG
    · have hw := hw.1 q_13
      refine lv_ldc (v := -1000001) K.1 K.2.1 K.2.2.2.1 (K.2.2.2.2.1 (.constant RX7 112 (-1000001)) (by decide +kernel)) dX7_plan_16 ?_
      exact hret (-1000001 : Int32) c_this_point H locs _ ls dX7_plan_18 rfl hw hG
abbrev rm_X7_ties : Room := { frames := 2, cells := 0, slots := 0, locals := 46 }
set_option maxHeartbeats 4000000 in
set_option maxRecDepth 100000 in
theorem k_X7_ties (l : Launch) (dC : Nat → ClassId) (dI : Nat → Nat → Nat) (cI cJ cZ cG : ClassId) (sz : Nat) (a_this a_this_lows a_this_highs a_this_rights a_this_terms a_this_costs a_this_froms a_this_tos a_this_planPoint a_this_planScore a_this_frontPlan a_this_frontTies a_this_pick a_this_end a_this_point a_this_score a_this_by a_this_four a_this_isNear a_this_number a_this_numbers a_this_place a_this_was : Nat) (c_this_aims : Int32) (c_this_columns : Int32) (c_this_front : Int32) (c_this_frontTies : Nat → Int32) (c_this_gone : Int32) (c_this_hasClimbed : Int32) (c_this_picks : Int32) (c_this_plans : Int32) (c_this_rows : Int32) (x1 : Int32) (post : Int32 → Prop) (hw : wp_X7_ties c_this_front c_this_frontTies x1 post) : MetI l yX7_ties wsX7_ties rm_X7_ties (dC, dI) cI cJ cZ cG [.ref a_this, .int x1] sz [(a_this, .inr (6, [.int c_this_columns, .int c_this_rows, .int c_this_aims, .ref a_this_lows, .ref a_this_highs, .ref a_this_rights, .ref a_this_terms, .ref a_this_costs, .ref a_this_froms, .ref a_this_tos, .int c_this_gone, .int c_this_plans, .ref a_this_planPoint, .ref a_this_planScore, .int c_this_front, .ref a_this_frontPlan, .ref a_this_frontTies, .int c_this_picks, .ref a_this_pick, .int c_this_hasClimbed, .ref a_this_end, .ref a_this_point, .ref a_this_score, .ref a_this_by, .ref a_this_four, .ref a_this_isNear, .ref a_this_number, .ref a_this_numbers, .ref a_this_place, .ref a_this_was])), (a_this_frontTies, .inl (cI, 2000, .inl c_this_frontTies))] (fun (r : Int32) (u : Unit) => post r) (fun u => [(a_this, .inr (6, [.int c_this_columns, .int c_this_rows, .int c_this_aims, .ref a_this_lows, .ref a_this_highs, .ref a_this_rights, .ref a_this_terms, .ref a_this_costs, .ref a_this_froms, .ref a_this_tos, .int c_this_gone, .int c_this_plans, .ref a_this_planPoint, .ref a_this_planScore, .int c_this_front, .ref a_this_frontPlan, .ref a_this_frontTies, .int c_this_picks, .ref a_this_pick, .int c_this_hasClimbed, .ref a_this_end, .ref a_this_point, .ref a_this_score, .ref a_this_by, .ref a_this_four, .ref a_this_isNear, .ref a_this_number, .ref a_this_numbers, .ref a_this_place, .ref a_this_was])), (a_this_frontTies, .inl (cI, 2000, .inl c_this_frontTies))]) := by
  refine met_i (ty := .int) (Or.inl rfl) (cc := cX7_ties) (maxL := 2) (by decide) rfl (Nat.le_of_ble_eq_true rfl) ?_
  intro p e s m args below meth c A Q H locs ls K hG hl hret
  have hl : lv_has ls 2 [(0, .ref a_this), (1, .int x1)] := hl
  have hin_RX7 : ∀ w ∈ u_ws RX7 TX7 30, w ∈ wsX7_ties := by decide +kernel
  unfold wp_X7_ties at hw
  refine lv_aload_n K.1 K.2.1 dX7_ties_0 rfl (lv_at hl 0 rfl) ?_
  refine lv_iload_n K.1 K.2.1 dX7_ties_1 rfl (lv_at hl 1 rfl) ?_
  refine g_ri K hG [0] rfl (g_runV (As := [.int x1]) (rest := []) K hG hl [0] rfl rfl 0 rfl rfl (k_X7_isScore l dC dI cI cJ cZ cG H.size a_this a_this_lows a_this_highs a_this_rights a_this_terms a_this_costs a_this_froms a_this_tos a_this_planPoint a_this_planScore a_this_frontPlan a_this_frontTies a_this_pick a_this_end a_this_point a_this_score a_this_by a_this_four a_this_isNear a_this_number a_this_numbers a_this_place a_this_was c_this_aims c_this_columns c_this_front c_this_gone c_this_hasClimbed c_this_picks c_this_plans c_this_rows x1 _ hw) (cwV 1 K.2.2.2.2.1 gX7_ties_X7_isScore rfl rfl rfl (by decide +kernel) ⟨by decide, by decide⟩) rfl rfl (Nat.le_of_ble_eq_true rfl) ⟨Nat.zero_le _, Nat.zero_le _⟩ dX7_ties_2) (fun r_2 H locs hw hG => ?_)
  refine lv_if_eq (tgt := 17) K.1 K.2.1 dX7_ties_5 (by decide) (fun q_5 => ?_) (fun q_5 => ?_)
  · have hw := hw.1 q_5
    refine lv_ldc (v := -1000001) K.1 K.2.1 K.2.2.2.1 (K.2.2.2.2.1 (.constant RX7 112 (-1000001)) (by decide +kernel)) dX7_ties_17 ?_
    exact hret (-1000001 : Int32) () H locs _ ls dX7_ties_19 rfl hw hG
  · have hw := hw.2 q_5
    refine lv_aload_n K.1 K.2.1 dX7_ties_8 rfl (lv_at hl 0 rfl) ?_
    refine g_get (v := .ref a_this_frontTies) K hG hin_RX7 0 rfl rfl 16 (by decide) (K.2.2.2.2.1 (.fieldLink RX7 40 "AimFrontsModel" "frontTies" "[I") (by decide +kernel)) rfl rfl dX7_ties_9 ?_
    refine lv_iload_n K.1 K.2.1 dX7_ties_12 rfl (lv_at hl 1 rfl) ?_
    obtain ⟨h_13, hw⟩ := hw
    refine g_iald K hG 1 rfl h_13 dX7_ties_13 ?_
    refine lv_goto (tgt := 19) K.1 K.2.1 dX7_ties_14 (by decide) ?_
    exact hret (c_this_frontTies (x1).toNatClampNeg) () H locs _ ls dX7_ties_19 rfl hw hG
abbrev rm_X7_least : Room := { frames := 2, cells := 0, slots := 0, locals := 44 }
set_option maxHeartbeats 4000000 in
set_option maxRecDepth 100000 in
theorem k_X7_least (l : Launch) (dC : Nat → ClassId) (dI : Nat → Nat → Nat) (cI cJ cZ cG : ClassId) (sz : Nat) (a_this a_this_lows a_this_highs a_this_rights a_this_terms a_this_costs a_this_froms a_this_tos a_this_planPoint a_this_planScore a_this_frontPlan a_this_frontTies a_this_pick a_this_end a_this_point a_this_score a_this_by a_this_four a_this_isNear a_this_number a_this_numbers a_this_place a_this_was : Nat) (c_this_aims : Int32) (c_this_columns : Int32) (c_this_front : Int32) (c_this_frontPlan : Nat → Int32) (c_this_gone : Int32) (c_this_hasClimbed : Int32) (c_this_picks : Int32) (c_this_planScore : Nat → Int32) (c_this_plans : Int32) (c_this_rows : Int32) (x1 : Int32) (post : Int32 → Prop) (hw : wp_X7_least c_this_front c_this_frontPlan c_this_planScore x1 post) : MetI l yX7_least wsX7_least rm_X7_least (dC, dI) cI cJ cZ cG [.ref a_this, .int x1] sz [(a_this, .inr (6, [.int c_this_columns, .int c_this_rows, .int c_this_aims, .ref a_this_lows, .ref a_this_highs, .ref a_this_rights, .ref a_this_terms, .ref a_this_costs, .ref a_this_froms, .ref a_this_tos, .int c_this_gone, .int c_this_plans, .ref a_this_planPoint, .ref a_this_planScore, .int c_this_front, .ref a_this_frontPlan, .ref a_this_frontTies, .int c_this_picks, .ref a_this_pick, .int c_this_hasClimbed, .ref a_this_end, .ref a_this_point, .ref a_this_score, .ref a_this_by, .ref a_this_four, .ref a_this_isNear, .ref a_this_number, .ref a_this_numbers, .ref a_this_place, .ref a_this_was])), (a_this_frontPlan, .inl (cI, 2000, .inl c_this_frontPlan)), (a_this_planScore, .inl (cI, 8000, .inl c_this_planScore))] (fun (r : Int32) (u : Unit) => post r) (fun u => [(a_this, .inr (6, [.int c_this_columns, .int c_this_rows, .int c_this_aims, .ref a_this_lows, .ref a_this_highs, .ref a_this_rights, .ref a_this_terms, .ref a_this_costs, .ref a_this_froms, .ref a_this_tos, .int c_this_gone, .int c_this_plans, .ref a_this_planPoint, .ref a_this_planScore, .int c_this_front, .ref a_this_frontPlan, .ref a_this_frontTies, .int c_this_picks, .ref a_this_pick, .int c_this_hasClimbed, .ref a_this_end, .ref a_this_point, .ref a_this_score, .ref a_this_by, .ref a_this_four, .ref a_this_isNear, .ref a_this_number, .ref a_this_numbers, .ref a_this_place, .ref a_this_was])), (a_this_frontPlan, .inl (cI, 2000, .inl c_this_frontPlan)), (a_this_planScore, .inl (cI, 8000, .inl c_this_planScore))]) := by
  refine met_i (ty := .int) (Or.inl rfl) (cc := cX7_least) (maxL := 4) (by decide) rfl (Nat.le_of_ble_eq_true rfl) ?_
  intro p e s m args below meth c A Q H locs ls K hG hl hret
  have hl : lv_has ls 4 [(0, .ref a_this), (1, .int x1)] := hl
  have hin_RX7 : ∀ w ∈ u_ws RX7 TX7 30, w ∈ wsX7_least := by decide +kernel
  unfold wp_X7_least at hw
  refine lv_aload_n K.1 K.2.1 dX7_least_0 rfl (lv_at hl 0 rfl) ?_
  refine lv_iconst (v := 0) K.1 K.2.1 dX7_least_1 (by decide) ?_
  refine lv_iload_n K.1 K.2.1 dX7_least_2 rfl (lv_at hl 1 rfl) ?_
  refine g_ri K hG [0, 1, 2] rfl (g_runV (As := [.int (0 : Int32), .int x1]) (rest := []) K hG hl [0, 1, 2] rfl rfl 0 rfl rfl (k_X7_at l dC dI cI cJ cZ cG H.size a_this a_this_lows a_this_highs a_this_rights a_this_terms a_this_costs a_this_froms a_this_tos a_this_planPoint a_this_planScore a_this_frontPlan a_this_frontTies a_this_pick a_this_end a_this_point a_this_score a_this_by a_this_four a_this_isNear a_this_number a_this_numbers a_this_place a_this_was c_this_aims c_this_columns c_this_front c_this_frontPlan c_this_gone c_this_hasClimbed c_this_picks c_this_planScore c_this_plans c_this_rows (0 : Int32) x1 _ hw) (cwV 2 K.2.2.2.2.1 gX7_least_X7_at rfl rfl rfl (by decide +kernel) ⟨by decide, by decide⟩) rfl rfl (Nat.le_of_ble_eq_true rfl) ⟨Nat.zero_le _, Nat.zero_le _⟩ dX7_least_3) (fun r_3 H locs hw hG => ?_)
  refine lv_istore_n (lv' := [(2, .int r_3), (0, .ref a_this), (1, .int x1)]) K.1 K.2.1 dX7_least_6 rfl hl (by decide) rfl (fun ls hl => ?_)
  refine lv_iconst (v := 1) K.1 K.2.1 dX7_least_7 (by decide) ?_
  refine lv_istore_n (lv' := [(3, .int (1 : Int32)), (2, .int r_3), (0, .ref a_this), (1, .int x1)]) K.1 K.2.1 dX7_least_8 rfl hl (by decide) rfl (fun ls hl => ?_)
  obtain ⟨kx_9, hkx_9, n_9, hw⟩ := Lx1_2_abs hw
  have hX_9 : ∀ (v2_9e : Int32) (H : Heap) (locs : List Loc) (ls : Array Slot), kx_9 v2_9e → HW (dC, dI) A s.heap [(a_this, .inr (6, [.int c_this_columns, .int c_this_rows, .int c_this_aims, .ref a_this_lows, .ref a_this_highs, .ref a_this_rights, .ref a_this_terms, .ref a_this_costs, .ref a_this_froms, .ref a_this_tos, .int c_this_gone, .int c_this_plans, .ref a_this_planPoint, .ref a_this_planScore, .int c_this_front, .ref a_this_frontPlan, .ref a_this_frontTies, .int c_this_picks, .ref a_this_pick, .int c_this_hasClimbed, .ref a_this_end, .ref a_this_point, .ref a_this_score, .ref a_this_by, .ref a_this_four, .ref a_this_isNear, .ref a_this_number, .ref a_this_numbers, .ref a_this_place, .ref a_this_was])), (a_this_frontPlan, .inl (cI, 2000, .inl c_this_frontPlan)), (a_this_planScore, .inl (cI, 8000, .inl c_this_planScore))] H locs → lv_has ls 4 [(2, .int v2_9e)] → W p l e rm_X7_least s m args below meth c H locs 0 0 Q (F0 m 44 ls []) := by
    intro v2_9e H locs ls hw hG hl
    have hw := hkx_9 _ hw
    refine lv_iload_n K.1 K.2.1 dX7_least_44 rfl (lv_at hl 0 rfl) ?_
    exact hret v2_9e () H locs _ ls dX7_least_45 rfl hw hG
  have hL_9 : ∀ (n : Nat), ∀ (v2_9 : Int32) (v3_9 : Int32) (H : Heap) (locs : List Loc) (ls : Array Slot), Lp2 (b_X7_least_9 c_this_front c_this_frontPlan c_this_planScore x1 kx_9) n v2_9 v3_9 → HW (dC, dI) A s.heap [(a_this, .inr (6, [.int c_this_columns, .int c_this_rows, .int c_this_aims, .ref a_this_lows, .ref a_this_highs, .ref a_this_rights, .ref a_this_terms, .ref a_this_costs, .ref a_this_froms, .ref a_this_tos, .int c_this_gone, .int c_this_plans, .ref a_this_planPoint, .ref a_this_planScore, .int c_this_front, .ref a_this_frontPlan, .ref a_this_frontTies, .int c_this_picks, .ref a_this_pick, .int c_this_hasClimbed, .ref a_this_end, .ref a_this_point, .ref a_this_score, .ref a_this_by, .ref a_this_four, .ref a_this_isNear, .ref a_this_number, .ref a_this_numbers, .ref a_this_place, .ref a_this_was])), (a_this_frontPlan, .inl (cI, 2000, .inl c_this_frontPlan)), (a_this_planScore, .inl (cI, 8000, .inl c_this_planScore))] H locs → lv_has ls 4 [(0, .ref a_this), (1, .int x1), (2, .int v2_9), (3, .int v3_9)] → W p l e rm_X7_least s m args below meth c H locs 0 0 Q (F0 m 9 ls []) := by
    intro n
    induction n with
    | zero => intro v2_9 v3_9 H locs ls hw; exact False.elim hw
    | succ n ih_9 =>
      intro v2_9 v3_9 H locs ls hw hG hl
      obtain ⟨w_9, hw_9, hw⟩ : ∃ w' : Int32 → Int32 → Prop, (∀ v2_9 v3_9, w' v2_9 v3_9 → Lp2 (b_X7_least_9 c_this_front c_this_frontPlan c_this_planScore x1 kx_9) n v2_9 v3_9) ∧ b_X7_least_9 c_this_front c_this_frontPlan c_this_planScore x1 kx_9 w' v2_9 v3_9 := ⟨_, fun _ _ h => h, hw⟩
      replace ih_9 : ∀ (v2_9 : Int32) (v3_9 : Int32) (H : Heap) (locs : List Loc) (ls : Array Slot), w_9 v2_9 v3_9 → HW (dC, dI) A s.heap [(a_this, .inr (6, [.int c_this_columns, .int c_this_rows, .int c_this_aims, .ref a_this_lows, .ref a_this_highs, .ref a_this_rights, .ref a_this_terms, .ref a_this_costs, .ref a_this_froms, .ref a_this_tos, .int c_this_gone, .int c_this_plans, .ref a_this_planPoint, .ref a_this_planScore, .int c_this_front, .ref a_this_frontPlan, .ref a_this_frontTies, .int c_this_picks, .ref a_this_pick, .int c_this_hasClimbed, .ref a_this_end, .ref a_this_point, .ref a_this_score, .ref a_this_by, .ref a_this_four, .ref a_this_isNear, .ref a_this_number, .ref a_this_numbers, .ref a_this_place, .ref a_this_was])), (a_this_frontPlan, .inl (cI, 2000, .inl c_this_frontPlan)), (a_this_planScore, .inl (cI, 8000, .inl c_this_planScore))] H locs → lv_has ls 4 [(0, .ref a_this), (1, .int x1), (2, .int v2_9), (3, .int v3_9)] → W p l e rm_X7_least s m args below meth c H locs 0 0 Q (F0 m 9 ls []) := fun v2_9 v3_9 H locs ls h => ih_9 v2_9 v3_9 H locs ls (hw_9 _ _ h)
      unfold b_X7_least_9 at hw
      refine lv_iload_n K.1 K.2.1 dX7_least_9 rfl (lv_at hl 3 rfl) ?_
      refine lv_aload_n K.1 K.2.1 dX7_least_10 rfl (lv_at hl 0 rfl) ?_
      refine g_get (v := .int c_this_front) K hG hin_RX7 0 rfl rfl 14 (by decide) (K.2.2.2.2.1 (.fieldLink RX7 98 "AimFrontsModel" "front" "I") (by decide +kernel)) rfl rfl dX7_least_11 ?_
      refine lv_icmp_ge (tgt := 44) K.1 K.2.1 dX7_least_14 (by decide) (fun q_14 => ?_) (fun q_14 => ?_)
      · have hw := hw.1 q_14
        exact hX_9 v2_9 H locs ls hw hG (lv_sub hl [2] rfl)
      · have hw := hw.2 q_14
        refine lv_aload_n K.1 K.2.1 dX7_least_17 rfl (lv_at hl 0 rfl) ?_
        refine lv_iload_n K.1 K.2.1 dX7_least_18 rfl (lv_at hl 3 rfl) ?_
        refine lv_iload_n K.1 K.2.1 dX7_least_19 rfl (lv_at hl 1 rfl) ?_
        refine g_ri K hG [0, 1, 2] rfl (g_runV (As := [.int v3_9, .int x1]) (rest := []) K hG hl [0, 1, 2] rfl rfl 0 rfl rfl (k_X7_at l dC dI cI cJ cZ cG H.size a_this a_this_lows a_this_highs a_this_rights a_this_terms a_this_costs a_this_froms a_this_tos a_this_planPoint a_this_planScore a_this_frontPlan a_this_frontTies a_this_pick a_this_end a_this_point a_this_score a_this_by a_this_four a_this_isNear a_this_number a_this_numbers a_this_place a_this_was c_this_aims c_this_columns c_this_front c_this_frontPlan c_this_gone c_this_hasClimbed c_this_picks c_this_planScore c_this_plans c_this_rows v3_9 x1 _ hw) (cwV 2 K.2.2.2.2.1 gX7_least_X7_at rfl rfl rfl (by decide +kernel) ⟨by decide, by decide⟩) rfl rfl (Nat.le_of_ble_eq_true rfl) ⟨Nat.zero_le _, Nat.zero_le _⟩ dX7_least_20) (fun r_20 H locs hw hG => ?_)
        refine lv_iload_n K.1 K.2.1 dX7_least_23 rfl (lv_at hl 2 rfl) ?_
        refine lv_icmp_ge (tgt := 36) K.1 K.2.1 dX7_least_24 (by decide) (fun q_24 => ?_) (fun q_24 => ?_)
        · have hw := hw.1 q_24
          refine lv_iload_n K.1 K.2.1 dX7_least_36 rfl (lv_at hl 2 rfl) ?_
          refine lv_istore_n (lv' := [(2, .int v2_9), (0, .ref a_this), (1, .int x1), (3, .int v3_9)]) K.1 K.2.1 dX7_least_37 rfl hl (by decide) rfl (fun ls hl => ?_)
          refine lv_iinc (v := (v3_9 + (1 : Int32))) (lv' := [(3, .int (v3_9 + (1 : Int32))), (2, .int v2_9), (0, .ref a_this), (1, .int x1)]) K.1 K.2.1 dX7_least_38 hl (k := 3) rfl rfl (by decide) rfl (fun ls hl => ?_)
          refine lv_goto (tgt := 9) K.1 K.2.1 dX7_least_41 (by decide) ?_
          exact ih_9 v2_9 (v3_9 + (1 : Int32)) H locs ls hw hG (lv_sub hl [2, 3, 1, 0] rfl)
        · have hw := hw.2 q_24
          refine lv_aload_n K.1 K.2.1 dX7_least_27 rfl (lv_at hl 0 rfl) ?_
          refine lv_iload_n K.1 K.2.1 dX7_least_28 rfl (lv_at hl 3 rfl) ?_
          refine lv_iload_n K.1 K.2.1 dX7_least_29 rfl (lv_at hl 1 rfl) ?_
          refine g_ri K hG [0, 1, 2] rfl (g_runV (As := [.int v3_9, .int x1]) (rest := []) K hG hl [0, 1, 2] rfl rfl 0 rfl rfl (k_X7_at l dC dI cI cJ cZ cG H.size a_this a_this_lows a_this_highs a_this_rights a_this_terms a_this_costs a_this_froms a_this_tos a_this_planPoint a_this_planScore a_this_frontPlan a_this_frontTies a_this_pick a_this_end a_this_point a_this_score a_this_by a_this_four a_this_isNear a_this_number a_this_numbers a_this_place a_this_was c_this_aims c_this_columns c_this_front c_this_frontPlan c_this_gone c_this_hasClimbed c_this_picks c_this_planScore c_this_plans c_this_rows v3_9 x1 _ hw) (cwV 2 K.2.2.2.2.1 gX7_least_X7_at rfl rfl rfl (by decide +kernel) ⟨by decide, by decide⟩) rfl rfl (Nat.le_of_ble_eq_true rfl) ⟨Nat.zero_le _, Nat.zero_le _⟩ dX7_least_30) (fun r_30 H locs hw hG => ?_)
          refine lv_goto (tgt := 37) K.1 K.2.1 dX7_least_33 (by decide) ?_
          refine lv_istore_n (lv' := [(2, .int r_30), (0, .ref a_this), (1, .int x1), (3, .int v3_9)]) K.1 K.2.1 dX7_least_37 rfl hl (by decide) rfl (fun ls hl => ?_)
          refine lv_iinc (v := (v3_9 + (1 : Int32))) (lv' := [(3, .int (v3_9 + (1 : Int32))), (2, .int r_30), (0, .ref a_this), (1, .int x1)]) K.1 K.2.1 dX7_least_38 hl (k := 3) rfl rfl (by decide) rfl (fun ls hl => ?_)
          refine lv_goto (tgt := 9) K.1 K.2.1 dX7_least_41 (by decide) ?_
          exact ih_9 r_30 (v3_9 + (1 : Int32)) H locs ls hw hG (lv_sub hl [2, 3, 1, 0] rfl)
  exact hL_9 n_9 r_3 (1 : Int32) H locs ls hw hG (lv_sub hl [2, 3, 1, 0] rfl)
abbrev rm_X7_greatest : Room := { frames := 2, cells := 0, slots := 0, locals := 44 }
set_option maxHeartbeats 4000000 in
set_option maxRecDepth 100000 in
theorem k_X7_greatest (l : Launch) (dC : Nat → ClassId) (dI : Nat → Nat → Nat) (cI cJ cZ cG : ClassId) (sz : Nat) (a_this a_this_lows a_this_highs a_this_rights a_this_terms a_this_costs a_this_froms a_this_tos a_this_planPoint a_this_planScore a_this_frontPlan a_this_frontTies a_this_pick a_this_end a_this_point a_this_score a_this_by a_this_four a_this_isNear a_this_number a_this_numbers a_this_place a_this_was : Nat) (c_this_aims : Int32) (c_this_columns : Int32) (c_this_front : Int32) (c_this_frontPlan : Nat → Int32) (c_this_gone : Int32) (c_this_hasClimbed : Int32) (c_this_picks : Int32) (c_this_planScore : Nat → Int32) (c_this_plans : Int32) (c_this_rows : Int32) (x1 : Int32) (post : Int32 → Prop) (hw : wp_X7_greatest c_this_front c_this_frontPlan c_this_planScore x1 post) : MetI l yX7_greatest wsX7_greatest rm_X7_greatest (dC, dI) cI cJ cZ cG [.ref a_this, .int x1] sz [(a_this, .inr (6, [.int c_this_columns, .int c_this_rows, .int c_this_aims, .ref a_this_lows, .ref a_this_highs, .ref a_this_rights, .ref a_this_terms, .ref a_this_costs, .ref a_this_froms, .ref a_this_tos, .int c_this_gone, .int c_this_plans, .ref a_this_planPoint, .ref a_this_planScore, .int c_this_front, .ref a_this_frontPlan, .ref a_this_frontTies, .int c_this_picks, .ref a_this_pick, .int c_this_hasClimbed, .ref a_this_end, .ref a_this_point, .ref a_this_score, .ref a_this_by, .ref a_this_four, .ref a_this_isNear, .ref a_this_number, .ref a_this_numbers, .ref a_this_place, .ref a_this_was])), (a_this_frontPlan, .inl (cI, 2000, .inl c_this_frontPlan)), (a_this_planScore, .inl (cI, 8000, .inl c_this_planScore))] (fun (r : Int32) (u : Unit) => post r) (fun u => [(a_this, .inr (6, [.int c_this_columns, .int c_this_rows, .int c_this_aims, .ref a_this_lows, .ref a_this_highs, .ref a_this_rights, .ref a_this_terms, .ref a_this_costs, .ref a_this_froms, .ref a_this_tos, .int c_this_gone, .int c_this_plans, .ref a_this_planPoint, .ref a_this_planScore, .int c_this_front, .ref a_this_frontPlan, .ref a_this_frontTies, .int c_this_picks, .ref a_this_pick, .int c_this_hasClimbed, .ref a_this_end, .ref a_this_point, .ref a_this_score, .ref a_this_by, .ref a_this_four, .ref a_this_isNear, .ref a_this_number, .ref a_this_numbers, .ref a_this_place, .ref a_this_was])), (a_this_frontPlan, .inl (cI, 2000, .inl c_this_frontPlan)), (a_this_planScore, .inl (cI, 8000, .inl c_this_planScore))]) := by
  refine met_i (ty := .int) (Or.inl rfl) (cc := cX7_greatest) (maxL := 4) (by decide) rfl (Nat.le_of_ble_eq_true rfl) ?_
  intro p e s m args below meth c A Q H locs ls K hG hl hret
  have hl : lv_has ls 4 [(0, .ref a_this), (1, .int x1)] := hl
  have hin_RX7 : ∀ w ∈ u_ws RX7 TX7 30, w ∈ wsX7_greatest := by decide +kernel
  unfold wp_X7_greatest at hw
  refine lv_aload_n K.1 K.2.1 dX7_greatest_0 rfl (lv_at hl 0 rfl) ?_
  refine lv_iconst (v := 0) K.1 K.2.1 dX7_greatest_1 (by decide) ?_
  refine lv_iload_n K.1 K.2.1 dX7_greatest_2 rfl (lv_at hl 1 rfl) ?_
  refine g_ri K hG [0, 1, 2] rfl (g_runV (As := [.int (0 : Int32), .int x1]) (rest := []) K hG hl [0, 1, 2] rfl rfl 0 rfl rfl (k_X7_at l dC dI cI cJ cZ cG H.size a_this a_this_lows a_this_highs a_this_rights a_this_terms a_this_costs a_this_froms a_this_tos a_this_planPoint a_this_planScore a_this_frontPlan a_this_frontTies a_this_pick a_this_end a_this_point a_this_score a_this_by a_this_four a_this_isNear a_this_number a_this_numbers a_this_place a_this_was c_this_aims c_this_columns c_this_front c_this_frontPlan c_this_gone c_this_hasClimbed c_this_picks c_this_planScore c_this_plans c_this_rows (0 : Int32) x1 _ hw) (cwV 2 K.2.2.2.2.1 gX7_greatest_X7_at rfl rfl rfl (by decide +kernel) ⟨by decide, by decide⟩) rfl rfl (Nat.le_of_ble_eq_true rfl) ⟨Nat.zero_le _, Nat.zero_le _⟩ dX7_greatest_3) (fun r_3 H locs hw hG => ?_)
  refine lv_istore_n (lv' := [(2, .int r_3), (0, .ref a_this), (1, .int x1)]) K.1 K.2.1 dX7_greatest_6 rfl hl (by decide) rfl (fun ls hl => ?_)
  refine lv_iconst (v := 1) K.1 K.2.1 dX7_greatest_7 (by decide) ?_
  refine lv_istore_n (lv' := [(3, .int (1 : Int32)), (2, .int r_3), (0, .ref a_this), (1, .int x1)]) K.1 K.2.1 dX7_greatest_8 rfl hl (by decide) rfl (fun ls hl => ?_)
  obtain ⟨kx_9, hkx_9, n_9, hw⟩ := Lx1_2_abs hw
  have hX_9 : ∀ (v2_9e : Int32) (H : Heap) (locs : List Loc) (ls : Array Slot), kx_9 v2_9e → HW (dC, dI) A s.heap [(a_this, .inr (6, [.int c_this_columns, .int c_this_rows, .int c_this_aims, .ref a_this_lows, .ref a_this_highs, .ref a_this_rights, .ref a_this_terms, .ref a_this_costs, .ref a_this_froms, .ref a_this_tos, .int c_this_gone, .int c_this_plans, .ref a_this_planPoint, .ref a_this_planScore, .int c_this_front, .ref a_this_frontPlan, .ref a_this_frontTies, .int c_this_picks, .ref a_this_pick, .int c_this_hasClimbed, .ref a_this_end, .ref a_this_point, .ref a_this_score, .ref a_this_by, .ref a_this_four, .ref a_this_isNear, .ref a_this_number, .ref a_this_numbers, .ref a_this_place, .ref a_this_was])), (a_this_frontPlan, .inl (cI, 2000, .inl c_this_frontPlan)), (a_this_planScore, .inl (cI, 8000, .inl c_this_planScore))] H locs → lv_has ls 4 [(2, .int v2_9e)] → W p l e rm_X7_greatest s m args below meth c H locs 0 0 Q (F0 m 44 ls []) := by
    intro v2_9e H locs ls hw hG hl
    have hw := hkx_9 _ hw
    refine lv_iload_n K.1 K.2.1 dX7_greatest_44 rfl (lv_at hl 0 rfl) ?_
    exact hret v2_9e () H locs _ ls dX7_greatest_45 rfl hw hG
  have hL_9 : ∀ (n : Nat), ∀ (v2_9 : Int32) (v3_9 : Int32) (H : Heap) (locs : List Loc) (ls : Array Slot), Lp2 (b_X7_greatest_9 c_this_front c_this_frontPlan c_this_planScore x1 kx_9) n v2_9 v3_9 → HW (dC, dI) A s.heap [(a_this, .inr (6, [.int c_this_columns, .int c_this_rows, .int c_this_aims, .ref a_this_lows, .ref a_this_highs, .ref a_this_rights, .ref a_this_terms, .ref a_this_costs, .ref a_this_froms, .ref a_this_tos, .int c_this_gone, .int c_this_plans, .ref a_this_planPoint, .ref a_this_planScore, .int c_this_front, .ref a_this_frontPlan, .ref a_this_frontTies, .int c_this_picks, .ref a_this_pick, .int c_this_hasClimbed, .ref a_this_end, .ref a_this_point, .ref a_this_score, .ref a_this_by, .ref a_this_four, .ref a_this_isNear, .ref a_this_number, .ref a_this_numbers, .ref a_this_place, .ref a_this_was])), (a_this_frontPlan, .inl (cI, 2000, .inl c_this_frontPlan)), (a_this_planScore, .inl (cI, 8000, .inl c_this_planScore))] H locs → lv_has ls 4 [(0, .ref a_this), (1, .int x1), (2, .int v2_9), (3, .int v3_9)] → W p l e rm_X7_greatest s m args below meth c H locs 0 0 Q (F0 m 9 ls []) := by
    intro n
    induction n with
    | zero => intro v2_9 v3_9 H locs ls hw; exact False.elim hw
    | succ n ih_9 =>
      intro v2_9 v3_9 H locs ls hw hG hl
      obtain ⟨w_9, hw_9, hw⟩ : ∃ w' : Int32 → Int32 → Prop, (∀ v2_9 v3_9, w' v2_9 v3_9 → Lp2 (b_X7_greatest_9 c_this_front c_this_frontPlan c_this_planScore x1 kx_9) n v2_9 v3_9) ∧ b_X7_greatest_9 c_this_front c_this_frontPlan c_this_planScore x1 kx_9 w' v2_9 v3_9 := ⟨_, fun _ _ h => h, hw⟩
      replace ih_9 : ∀ (v2_9 : Int32) (v3_9 : Int32) (H : Heap) (locs : List Loc) (ls : Array Slot), w_9 v2_9 v3_9 → HW (dC, dI) A s.heap [(a_this, .inr (6, [.int c_this_columns, .int c_this_rows, .int c_this_aims, .ref a_this_lows, .ref a_this_highs, .ref a_this_rights, .ref a_this_terms, .ref a_this_costs, .ref a_this_froms, .ref a_this_tos, .int c_this_gone, .int c_this_plans, .ref a_this_planPoint, .ref a_this_planScore, .int c_this_front, .ref a_this_frontPlan, .ref a_this_frontTies, .int c_this_picks, .ref a_this_pick, .int c_this_hasClimbed, .ref a_this_end, .ref a_this_point, .ref a_this_score, .ref a_this_by, .ref a_this_four, .ref a_this_isNear, .ref a_this_number, .ref a_this_numbers, .ref a_this_place, .ref a_this_was])), (a_this_frontPlan, .inl (cI, 2000, .inl c_this_frontPlan)), (a_this_planScore, .inl (cI, 8000, .inl c_this_planScore))] H locs → lv_has ls 4 [(0, .ref a_this), (1, .int x1), (2, .int v2_9), (3, .int v3_9)] → W p l e rm_X7_greatest s m args below meth c H locs 0 0 Q (F0 m 9 ls []) := fun v2_9 v3_9 H locs ls h => ih_9 v2_9 v3_9 H locs ls (hw_9 _ _ h)
      unfold b_X7_greatest_9 at hw
      refine lv_iload_n K.1 K.2.1 dX7_greatest_9 rfl (lv_at hl 3 rfl) ?_
      refine lv_aload_n K.1 K.2.1 dX7_greatest_10 rfl (lv_at hl 0 rfl) ?_
      refine g_get (v := .int c_this_front) K hG hin_RX7 0 rfl rfl 14 (by decide) (K.2.2.2.2.1 (.fieldLink RX7 98 "AimFrontsModel" "front" "I") (by decide +kernel)) rfl rfl dX7_greatest_11 ?_
      refine lv_icmp_ge (tgt := 44) K.1 K.2.1 dX7_greatest_14 (by decide) (fun q_14 => ?_) (fun q_14 => ?_)
      · have hw := hw.1 q_14
        exact hX_9 v2_9 H locs ls hw hG (lv_sub hl [2] rfl)
      · have hw := hw.2 q_14
        refine lv_aload_n K.1 K.2.1 dX7_greatest_17 rfl (lv_at hl 0 rfl) ?_
        refine lv_iload_n K.1 K.2.1 dX7_greatest_18 rfl (lv_at hl 3 rfl) ?_
        refine lv_iload_n K.1 K.2.1 dX7_greatest_19 rfl (lv_at hl 1 rfl) ?_
        refine g_ri K hG [0, 1, 2] rfl (g_runV (As := [.int v3_9, .int x1]) (rest := []) K hG hl [0, 1, 2] rfl rfl 0 rfl rfl (k_X7_at l dC dI cI cJ cZ cG H.size a_this a_this_lows a_this_highs a_this_rights a_this_terms a_this_costs a_this_froms a_this_tos a_this_planPoint a_this_planScore a_this_frontPlan a_this_frontTies a_this_pick a_this_end a_this_point a_this_score a_this_by a_this_four a_this_isNear a_this_number a_this_numbers a_this_place a_this_was c_this_aims c_this_columns c_this_front c_this_frontPlan c_this_gone c_this_hasClimbed c_this_picks c_this_planScore c_this_plans c_this_rows v3_9 x1 _ hw) (cwV 2 K.2.2.2.2.1 gX7_greatest_X7_at rfl rfl rfl (by decide +kernel) ⟨by decide, by decide⟩) rfl rfl (Nat.le_of_ble_eq_true rfl) ⟨Nat.zero_le _, Nat.zero_le _⟩ dX7_greatest_20) (fun r_20 H locs hw hG => ?_)
        refine lv_iload_n K.1 K.2.1 dX7_greatest_23 rfl (lv_at hl 2 rfl) ?_
        refine lv_icmp_le (tgt := 36) K.1 K.2.1 dX7_greatest_24 (by decide) (fun q_24 => ?_) (fun q_24 => ?_)
        · have hw := hw.1 q_24
          refine lv_iload_n K.1 K.2.1 dX7_greatest_36 rfl (lv_at hl 2 rfl) ?_
          refine lv_istore_n (lv' := [(2, .int v2_9), (0, .ref a_this), (1, .int x1), (3, .int v3_9)]) K.1 K.2.1 dX7_greatest_37 rfl hl (by decide) rfl (fun ls hl => ?_)
          refine lv_iinc (v := (v3_9 + (1 : Int32))) (lv' := [(3, .int (v3_9 + (1 : Int32))), (2, .int v2_9), (0, .ref a_this), (1, .int x1)]) K.1 K.2.1 dX7_greatest_38 hl (k := 3) rfl rfl (by decide) rfl (fun ls hl => ?_)
          refine lv_goto (tgt := 9) K.1 K.2.1 dX7_greatest_41 (by decide) ?_
          exact ih_9 v2_9 (v3_9 + (1 : Int32)) H locs ls hw hG (lv_sub hl [2, 3, 1, 0] rfl)
        · have hw := hw.2 q_24
          refine lv_aload_n K.1 K.2.1 dX7_greatest_27 rfl (lv_at hl 0 rfl) ?_
          refine lv_iload_n K.1 K.2.1 dX7_greatest_28 rfl (lv_at hl 3 rfl) ?_
          refine lv_iload_n K.1 K.2.1 dX7_greatest_29 rfl (lv_at hl 1 rfl) ?_
          refine g_ri K hG [0, 1, 2] rfl (g_runV (As := [.int v3_9, .int x1]) (rest := []) K hG hl [0, 1, 2] rfl rfl 0 rfl rfl (k_X7_at l dC dI cI cJ cZ cG H.size a_this a_this_lows a_this_highs a_this_rights a_this_terms a_this_costs a_this_froms a_this_tos a_this_planPoint a_this_planScore a_this_frontPlan a_this_frontTies a_this_pick a_this_end a_this_point a_this_score a_this_by a_this_four a_this_isNear a_this_number a_this_numbers a_this_place a_this_was c_this_aims c_this_columns c_this_front c_this_frontPlan c_this_gone c_this_hasClimbed c_this_picks c_this_planScore c_this_plans c_this_rows v3_9 x1 _ hw) (cwV 2 K.2.2.2.2.1 gX7_greatest_X7_at rfl rfl rfl (by decide +kernel) ⟨by decide, by decide⟩) rfl rfl (Nat.le_of_ble_eq_true rfl) ⟨Nat.zero_le _, Nat.zero_le _⟩ dX7_greatest_30) (fun r_30 H locs hw hG => ?_)
          refine lv_goto (tgt := 37) K.1 K.2.1 dX7_greatest_33 (by decide) ?_
          refine lv_istore_n (lv' := [(2, .int r_30), (0, .ref a_this), (1, .int x1), (3, .int v3_9)]) K.1 K.2.1 dX7_greatest_37 rfl hl (by decide) rfl (fun ls hl => ?_)
          refine lv_iinc (v := (v3_9 + (1 : Int32))) (lv' := [(3, .int (v3_9 + (1 : Int32))), (2, .int r_30), (0, .ref a_this), (1, .int x1)]) K.1 K.2.1 dX7_greatest_38 hl (k := 3) rfl rfl (by decide) rfl (fun ls hl => ?_)
          refine lv_goto (tgt := 9) K.1 K.2.1 dX7_greatest_41 (by decide) ?_
          exact ih_9 r_30 (v3_9 + (1 : Int32)) H locs ls hw hG (lv_sub hl [2, 3, 1, 0] rfl)
  exact hL_9 n_9 r_3 (1 : Int32) H locs ls hw hG (lv_sub hl [2, 3, 1, 0] rfl)
abbrev rm_X7_ideal : Room := { frames := 3, cells := 0, slots := 0, locals := 67 }
set_option maxHeartbeats 4000000 in
set_option maxRecDepth 100000 in
theorem k_X7_ideal (l : Launch) (dC : Nat → ClassId) (dI : Nat → Nat → Nat) (cI cJ cZ cG : ClassId) (sz : Nat) (a_this a_this_lows a_this_highs a_this_rights a_this_terms a_this_costs a_this_froms a_this_tos a_this_planPoint a_this_planScore a_this_frontPlan a_this_frontTies a_this_pick a_this_end a_this_point a_this_score a_this_by a_this_four a_this_isNear a_this_number a_this_numbers a_this_place a_this_was : Nat) (c_this_aims : Int32) (c_this_columns : Int32) (c_this_front : Int32) (c_this_frontPlan : Nat → Int32) (c_this_gone : Int32) (c_this_hasClimbed : Int32) (c_this_picks : Int32) (c_this_planScore : Nat → Int32) (c_this_plans : Int32) (c_this_rows : Int32) (x1 : Int32) (post : Int32 → Prop) (hw : wp_X7_ideal c_this_aims c_this_front c_this_frontPlan c_this_planScore x1 post) : MetI l yX7_ideal wsX7_ideal rm_X7_ideal (dC, dI) cI cJ cZ cG [.ref a_this, .int x1] sz [(a_this, .inr (6, [.int c_this_columns, .int c_this_rows, .int c_this_aims, .ref a_this_lows, .ref a_this_highs, .ref a_this_rights, .ref a_this_terms, .ref a_this_costs, .ref a_this_froms, .ref a_this_tos, .int c_this_gone, .int c_this_plans, .ref a_this_planPoint, .ref a_this_planScore, .int c_this_front, .ref a_this_frontPlan, .ref a_this_frontTies, .int c_this_picks, .ref a_this_pick, .int c_this_hasClimbed, .ref a_this_end, .ref a_this_point, .ref a_this_score, .ref a_this_by, .ref a_this_four, .ref a_this_isNear, .ref a_this_number, .ref a_this_numbers, .ref a_this_place, .ref a_this_was])), (a_this_frontPlan, .inl (cI, 2000, .inl c_this_frontPlan)), (a_this_planScore, .inl (cI, 8000, .inl c_this_planScore))] (fun (r : Int32) (u : Unit) => post r) (fun u => [(a_this, .inr (6, [.int c_this_columns, .int c_this_rows, .int c_this_aims, .ref a_this_lows, .ref a_this_highs, .ref a_this_rights, .ref a_this_terms, .ref a_this_costs, .ref a_this_froms, .ref a_this_tos, .int c_this_gone, .int c_this_plans, .ref a_this_planPoint, .ref a_this_planScore, .int c_this_front, .ref a_this_frontPlan, .ref a_this_frontTies, .int c_this_picks, .ref a_this_pick, .int c_this_hasClimbed, .ref a_this_end, .ref a_this_point, .ref a_this_score, .ref a_this_by, .ref a_this_four, .ref a_this_isNear, .ref a_this_number, .ref a_this_numbers, .ref a_this_place, .ref a_this_was])), (a_this_frontPlan, .inl (cI, 2000, .inl c_this_frontPlan)), (a_this_planScore, .inl (cI, 8000, .inl c_this_planScore))]) := by
  refine met_i (ty := .int) (Or.inl rfl) (cc := cX7_ideal) (maxL := 2) (by decide) rfl (Nat.le_of_ble_eq_true rfl) ?_
  intro p e s m args below meth c A Q H locs ls K hG hl hret
  have hl : lv_has ls 2 [(0, .ref a_this), (1, .int x1)] := hl
  have hin_RX7 : ∀ w ∈ u_ws RX7 TX7 30, w ∈ wsX7_ideal := by decide +kernel
  unfold wp_X7_ideal at hw
  refine lv_aload_n K.1 K.2.1 dX7_ideal_0 rfl (lv_at hl 0 rfl) ?_
  refine lv_iload_n K.1 K.2.1 dX7_ideal_1 rfl (lv_at hl 1 rfl) ?_
  refine g_ri K hG [0] rfl (g_runV (As := [.int x1]) (rest := []) K hG hl [0] rfl rfl 0 rfl rfl (k_X7_isAim l dC dI cI cJ cZ cG H.size a_this a_this_lows a_this_highs a_this_rights a_this_terms a_this_costs a_this_froms a_this_tos a_this_planPoint a_this_planScore a_this_frontPlan a_this_frontTies a_this_pick a_this_end a_this_point a_this_score a_this_by a_this_four a_this_isNear a_this_number a_this_numbers a_this_place a_this_was c_this_aims c_this_columns c_this_front c_this_gone c_this_hasClimbed c_this_picks c_this_plans c_this_rows x1 _ hw) (cwV 1 K.2.2.2.2.1 gX7_ideal_X7_isAim rfl rfl rfl (by decide +kernel) ⟨by decide, by decide⟩) rfl rfl (Nat.le_of_ble_eq_true rfl) ⟨Nat.zero_le _, Nat.zero_le _⟩ dX7_ideal_2) (fun r_2 H locs hw hG => ?_)
  refine lv_if_ne (tgt := 13) K.1 K.2.1 dX7_ideal_5 (by decide) (fun q_5 => ?_) (fun q_5 => ?_)
  · have hw := hw.2 q_5
    refine lv_aload_n K.1 K.2.1 dX7_ideal_13 rfl (lv_at hl 0 rfl) ?_
    refine g_get (v := .int c_this_front) K hG hin_RX7 0 rfl rfl 14 (by decide) (K.2.2.2.2.1 (.fieldLink RX7 98 "AimFrontsModel" "front" "I") (by decide +kernel)) rfl rfl dX7_ideal_14 ?_
    refine lv_if_ne (tgt := 25) K.1 K.2.1 dX7_ideal_17 (by decide) (fun q_17 => ?_) (fun q_17 => ?_)
    · have hw := hw.2 q_17
      refine lv_aload_n K.1 K.2.1 dX7_ideal_25 rfl (lv_at hl 0 rfl) ?_
      refine lv_iload_n K.1 K.2.1 dX7_ideal_26 rfl (lv_at hl 1 rfl) ?_
      refine g_ri K hG [0, 1, 2] rfl (g_runV (As := [.int x1]) (rest := []) K hG hl [0, 1, 2] rfl rfl 0 rfl rfl (k_X7_least l dC dI cI cJ cZ cG H.size a_this a_this_lows a_this_highs a_this_rights a_this_terms a_this_costs a_this_froms a_this_tos a_this_planPoint a_this_planScore a_this_frontPlan a_this_frontTies a_this_pick a_this_end a_this_point a_this_score a_this_by a_this_four a_this_isNear a_this_number a_this_numbers a_this_place a_this_was c_this_aims c_this_columns c_this_front c_this_frontPlan c_this_gone c_this_hasClimbed c_this_picks c_this_planScore c_this_plans c_this_rows x1 _ hw) (cwV 1 K.2.2.2.2.1 gX7_ideal_X7_least rfl rfl rfl (by decide +kernel) ⟨by decide, by decide⟩) rfl rfl (Nat.le_of_ble_eq_true rfl) ⟨Nat.zero_le _, Nat.zero_le _⟩ dX7_ideal_27) (fun r_27 H locs hw hG => ?_)
      exact hret r_27 () H locs _ ls dX7_ideal_30 rfl hw hG
    · have hw := hw.1 q_17
      refine lv_ldc (v := -1000002) K.1 K.2.1 K.2.2.2.1 (K.2.2.2.2.1 (.constant RX7 161 (-1000002)) (by decide +kernel)) dX7_ideal_20 ?_
      refine lv_goto (tgt := 30) K.1 K.2.1 dX7_ideal_22 (by decide) ?_
      exact hret (-1000002 : Int32) () H locs _ ls dX7_ideal_30 rfl hw hG
  · have hw := hw.1 q_5
    refine lv_ldc (v := -1000001) K.1 K.2.1 K.2.2.2.1 (K.2.2.2.2.1 (.constant RX7 112 (-1000001)) (by decide +kernel)) dX7_ideal_8 ?_
    refine lv_goto (tgt := 30) K.1 K.2.1 dX7_ideal_10 (by decide) ?_
    exact hret (-1000001 : Int32) () H locs _ ls dX7_ideal_30 rfl hw hG
abbrev rm_X7_nadir : Room := { frames := 3, cells := 0, slots := 0, locals := 67 }
set_option maxHeartbeats 4000000 in
set_option maxRecDepth 100000 in
theorem k_X7_nadir (l : Launch) (dC : Nat → ClassId) (dI : Nat → Nat → Nat) (cI cJ cZ cG : ClassId) (sz : Nat) (a_this a_this_lows a_this_highs a_this_rights a_this_terms a_this_costs a_this_froms a_this_tos a_this_planPoint a_this_planScore a_this_frontPlan a_this_frontTies a_this_pick a_this_end a_this_point a_this_score a_this_by a_this_four a_this_isNear a_this_number a_this_numbers a_this_place a_this_was : Nat) (c_this_aims : Int32) (c_this_columns : Int32) (c_this_front : Int32) (c_this_frontPlan : Nat → Int32) (c_this_gone : Int32) (c_this_hasClimbed : Int32) (c_this_picks : Int32) (c_this_planScore : Nat → Int32) (c_this_plans : Int32) (c_this_rows : Int32) (x1 : Int32) (post : Int32 → Prop) (hw : wp_X7_nadir c_this_aims c_this_front c_this_frontPlan c_this_planScore x1 post) : MetI l yX7_nadir wsX7_nadir rm_X7_nadir (dC, dI) cI cJ cZ cG [.ref a_this, .int x1] sz [(a_this, .inr (6, [.int c_this_columns, .int c_this_rows, .int c_this_aims, .ref a_this_lows, .ref a_this_highs, .ref a_this_rights, .ref a_this_terms, .ref a_this_costs, .ref a_this_froms, .ref a_this_tos, .int c_this_gone, .int c_this_plans, .ref a_this_planPoint, .ref a_this_planScore, .int c_this_front, .ref a_this_frontPlan, .ref a_this_frontTies, .int c_this_picks, .ref a_this_pick, .int c_this_hasClimbed, .ref a_this_end, .ref a_this_point, .ref a_this_score, .ref a_this_by, .ref a_this_four, .ref a_this_isNear, .ref a_this_number, .ref a_this_numbers, .ref a_this_place, .ref a_this_was])), (a_this_frontPlan, .inl (cI, 2000, .inl c_this_frontPlan)), (a_this_planScore, .inl (cI, 8000, .inl c_this_planScore))] (fun (r : Int32) (u : Unit) => post r) (fun u => [(a_this, .inr (6, [.int c_this_columns, .int c_this_rows, .int c_this_aims, .ref a_this_lows, .ref a_this_highs, .ref a_this_rights, .ref a_this_terms, .ref a_this_costs, .ref a_this_froms, .ref a_this_tos, .int c_this_gone, .int c_this_plans, .ref a_this_planPoint, .ref a_this_planScore, .int c_this_front, .ref a_this_frontPlan, .ref a_this_frontTies, .int c_this_picks, .ref a_this_pick, .int c_this_hasClimbed, .ref a_this_end, .ref a_this_point, .ref a_this_score, .ref a_this_by, .ref a_this_four, .ref a_this_isNear, .ref a_this_number, .ref a_this_numbers, .ref a_this_place, .ref a_this_was])), (a_this_frontPlan, .inl (cI, 2000, .inl c_this_frontPlan)), (a_this_planScore, .inl (cI, 8000, .inl c_this_planScore))]) := by
  refine met_i (ty := .int) (Or.inl rfl) (cc := cX7_nadir) (maxL := 2) (by decide) rfl (Nat.le_of_ble_eq_true rfl) ?_
  intro p e s m args below meth c A Q H locs ls K hG hl hret
  have hl : lv_has ls 2 [(0, .ref a_this), (1, .int x1)] := hl
  have hin_RX7 : ∀ w ∈ u_ws RX7 TX7 30, w ∈ wsX7_nadir := by decide +kernel
  unfold wp_X7_nadir at hw
  refine lv_aload_n K.1 K.2.1 dX7_nadir_0 rfl (lv_at hl 0 rfl) ?_
  refine lv_iload_n K.1 K.2.1 dX7_nadir_1 rfl (lv_at hl 1 rfl) ?_
  refine g_ri K hG [0] rfl (g_runV (As := [.int x1]) (rest := []) K hG hl [0] rfl rfl 0 rfl rfl (k_X7_isAim l dC dI cI cJ cZ cG H.size a_this a_this_lows a_this_highs a_this_rights a_this_terms a_this_costs a_this_froms a_this_tos a_this_planPoint a_this_planScore a_this_frontPlan a_this_frontTies a_this_pick a_this_end a_this_point a_this_score a_this_by a_this_four a_this_isNear a_this_number a_this_numbers a_this_place a_this_was c_this_aims c_this_columns c_this_front c_this_gone c_this_hasClimbed c_this_picks c_this_plans c_this_rows x1 _ hw) (cwV 1 K.2.2.2.2.1 gX7_nadir_X7_isAim rfl rfl rfl (by decide +kernel) ⟨by decide, by decide⟩) rfl rfl (Nat.le_of_ble_eq_true rfl) ⟨Nat.zero_le _, Nat.zero_le _⟩ dX7_nadir_2) (fun r_2 H locs hw hG => ?_)
  refine lv_if_ne (tgt := 13) K.1 K.2.1 dX7_nadir_5 (by decide) (fun q_5 => ?_) (fun q_5 => ?_)
  · have hw := hw.2 q_5
    refine lv_aload_n K.1 K.2.1 dX7_nadir_13 rfl (lv_at hl 0 rfl) ?_
    refine g_get (v := .int c_this_front) K hG hin_RX7 0 rfl rfl 14 (by decide) (K.2.2.2.2.1 (.fieldLink RX7 98 "AimFrontsModel" "front" "I") (by decide +kernel)) rfl rfl dX7_nadir_14 ?_
    refine lv_if_ne (tgt := 25) K.1 K.2.1 dX7_nadir_17 (by decide) (fun q_17 => ?_) (fun q_17 => ?_)
    · have hw := hw.2 q_17
      refine lv_aload_n K.1 K.2.1 dX7_nadir_25 rfl (lv_at hl 0 rfl) ?_
      refine lv_iload_n K.1 K.2.1 dX7_nadir_26 rfl (lv_at hl 1 rfl) ?_
      refine g_ri K hG [0, 1, 2] rfl (g_runV (As := [.int x1]) (rest := []) K hG hl [0, 1, 2] rfl rfl 0 rfl rfl (k_X7_greatest l dC dI cI cJ cZ cG H.size a_this a_this_lows a_this_highs a_this_rights a_this_terms a_this_costs a_this_froms a_this_tos a_this_planPoint a_this_planScore a_this_frontPlan a_this_frontTies a_this_pick a_this_end a_this_point a_this_score a_this_by a_this_four a_this_isNear a_this_number a_this_numbers a_this_place a_this_was c_this_aims c_this_columns c_this_front c_this_frontPlan c_this_gone c_this_hasClimbed c_this_picks c_this_planScore c_this_plans c_this_rows x1 _ hw) (cwV 1 K.2.2.2.2.1 gX7_nadir_X7_greatest rfl rfl rfl (by decide +kernel) ⟨by decide, by decide⟩) rfl rfl (Nat.le_of_ble_eq_true rfl) ⟨Nat.zero_le _, Nat.zero_le _⟩ dX7_nadir_27) (fun r_27 H locs hw hG => ?_)
      exact hret r_27 () H locs _ ls dX7_nadir_30 rfl hw hG
    · have hw := hw.1 q_17
      refine lv_ldc (v := -1000002) K.1 K.2.1 K.2.2.2.1 (K.2.2.2.2.1 (.constant RX7 161 (-1000002)) (by decide +kernel)) dX7_nadir_20 ?_
      refine lv_goto (tgt := 30) K.1 K.2.1 dX7_nadir_22 (by decide) ?_
      exact hret (-1000002 : Int32) () H locs _ ls dX7_nadir_30 rfl hw hG
  · have hw := hw.1 q_5
    refine lv_ldc (v := -1000001) K.1 K.2.1 K.2.2.2.1 (K.2.2.2.2.1 (.constant RX7 112 (-1000001)) (by decide +kernel)) dX7_nadir_8 ?_
    refine lv_goto (tgt := 30) K.1 K.2.1 dX7_nadir_10 (by decide) ?_
    exact hret (-1000001 : Int32) () H locs _ ls dX7_nadir_30 rfl hw hG
abbrev rm_X7_distance : Room := { frames := 3, cells := 0, slots := 0, locals := 67 }
set_option maxHeartbeats 4000000 in
set_option maxRecDepth 100000 in
theorem k_X7_distance (l : Launch) (dC : Nat → ClassId) (dI : Nat → Nat → Nat) (cI cJ cZ cG : ClassId) (sz : Nat) (a_this a_this_lows a_this_highs a_this_rights a_this_terms a_this_costs a_this_froms a_this_tos a_this_planPoint a_this_planScore a_this_frontPlan a_this_frontTies a_this_pick a_this_end a_this_point a_this_score a_this_by a_this_four a_this_isNear a_this_number a_this_numbers a_this_place a_this_was : Nat) (c_this_aims : Int32) (c_this_by : Nat → Int64) (c_this_columns : Int32) (c_this_front : Int32) (c_this_frontPlan : Nat → Int32) (c_this_gone : Int32) (c_this_hasClimbed : Int32) (c_this_picks : Int32) (c_this_planScore : Nat → Int32) (c_this_plans : Int32) (c_this_rows : Int32) (x1 : Int32) (x2 : Int32) (post : Int64 → Prop) (hw : wp_X7_distance c_this_aims c_this_by c_this_front c_this_frontPlan c_this_planScore x1 x2 post) : MetL l yX7_distance wsX7_distance rm_X7_distance (dC, dI) cI cJ cZ cG [.ref a_this, .int x1, .int x2] sz [(a_this, .inr (6, [.int c_this_columns, .int c_this_rows, .int c_this_aims, .ref a_this_lows, .ref a_this_highs, .ref a_this_rights, .ref a_this_terms, .ref a_this_costs, .ref a_this_froms, .ref a_this_tos, .int c_this_gone, .int c_this_plans, .ref a_this_planPoint, .ref a_this_planScore, .int c_this_front, .ref a_this_frontPlan, .ref a_this_frontTies, .int c_this_picks, .ref a_this_pick, .int c_this_hasClimbed, .ref a_this_end, .ref a_this_point, .ref a_this_score, .ref a_this_by, .ref a_this_four, .ref a_this_isNear, .ref a_this_number, .ref a_this_numbers, .ref a_this_place, .ref a_this_was])), (a_this_by, .inl (cJ, 4, .inr (.inl c_this_by))), (a_this_frontPlan, .inl (cI, 2000, .inl c_this_frontPlan)), (a_this_planScore, .inl (cI, 8000, .inl c_this_planScore))] (fun (r : Int64) (u : Unit) => post r) (fun u => [(a_this, .inr (6, [.int c_this_columns, .int c_this_rows, .int c_this_aims, .ref a_this_lows, .ref a_this_highs, .ref a_this_rights, .ref a_this_terms, .ref a_this_costs, .ref a_this_froms, .ref a_this_tos, .int c_this_gone, .int c_this_plans, .ref a_this_planPoint, .ref a_this_planScore, .int c_this_front, .ref a_this_frontPlan, .ref a_this_frontTies, .int c_this_picks, .ref a_this_pick, .int c_this_hasClimbed, .ref a_this_end, .ref a_this_point, .ref a_this_score, .ref a_this_by, .ref a_this_four, .ref a_this_isNear, .ref a_this_number, .ref a_this_numbers, .ref a_this_place, .ref a_this_was])), (a_this_by, .inl (cJ, 4, .inr (.inl c_this_by))), (a_this_frontPlan, .inl (cI, 2000, .inl c_this_frontPlan)), (a_this_planScore, .inl (cI, 8000, .inl c_this_planScore))]) := by
  refine met_l (cc := cX7_distance) (maxL := 9) (by decide) rfl (Nat.le_of_ble_eq_true rfl) ?_
  intro p e s m args below meth c A Q H locs ls K hG hl hret
  have hl : lv_has ls 9 [(0, .ref a_this), (1, .int x1), (2, .int x2)] := hl
  have hin_RX7 : ∀ w ∈ u_ws RX7 TX7 30, w ∈ wsX7_distance := by decide +kernel
  unfold wp_X7_distance at hw
  refine lv_lconst (v := 0) K.1 K.2.1 dX7_distance_0 (by decide) ?_
  refine lv_lstore_n (lv' := [(3, .long (0 : Int64)), (0, .ref a_this), (1, .int x1), (2, .int x2)]) K.1 K.2.1 dX7_distance_1 rfl hl (by decide) rfl (fun ls hl => ?_)
  refine lv_iconst (v := 0) K.1 K.2.1 dX7_distance_2 (by decide) ?_
  refine lv_istore (lv' := [(5, .int (0 : Int32)), (3, .long (0 : Int64)), (0, .ref a_this), (1, .int x1), (2, .int x2)]) K.1 K.2.1 dX7_distance_3 hl (by decide) rfl (fun ls hl => ?_)
  obtain ⟨kx_5, hkx_5, n_5, hw⟩ := Lx1_2_abs hw
  have hX_5 : ∀ (v3_5e : Int64) (H : Heap) (locs : List Loc) (ls : Array Slot), kx_5 v3_5e → HW (dC, dI) A s.heap [(a_this, .inr (6, [.int c_this_columns, .int c_this_rows, .int c_this_aims, .ref a_this_lows, .ref a_this_highs, .ref a_this_rights, .ref a_this_terms, .ref a_this_costs, .ref a_this_froms, .ref a_this_tos, .int c_this_gone, .int c_this_plans, .ref a_this_planPoint, .ref a_this_planScore, .int c_this_front, .ref a_this_frontPlan, .ref a_this_frontTies, .int c_this_picks, .ref a_this_pick, .int c_this_hasClimbed, .ref a_this_end, .ref a_this_point, .ref a_this_score, .ref a_this_by, .ref a_this_four, .ref a_this_isNear, .ref a_this_number, .ref a_this_numbers, .ref a_this_place, .ref a_this_was])), (a_this_by, .inl (cJ, 4, .inr (.inl c_this_by))), (a_this_frontPlan, .inl (cI, 2000, .inl c_this_frontPlan)), (a_this_planScore, .inl (cI, 8000, .inl c_this_planScore))] H locs → lv_has ls 9 [(3, .long v3_5e)] → W p l e rm_X7_distance s m args below meth c H locs 0 0 Q (F0 m 104 ls []) := by
    intro v3_5e H locs ls hw hG hl
    have hw := hkx_5 _ hw
    refine lv_lload_n K.1 K.2.1 dX7_distance_104 rfl (lv_at hl 0 rfl) ?_
    exact hret v3_5e () H locs _ ls dX7_distance_105 hw hG
  have hL_5 : ∀ (n : Nat), ∀ (v3_5 : Int64) (v5_5 : Int32) (H : Heap) (locs : List Loc) (ls : Array Slot), Lp2 (b_X7_distance_5 c_this_aims c_this_front c_this_by c_this_frontPlan c_this_planScore x1 x2 kx_5) n v3_5 v5_5 → HW (dC, dI) A s.heap [(a_this, .inr (6, [.int c_this_columns, .int c_this_rows, .int c_this_aims, .ref a_this_lows, .ref a_this_highs, .ref a_this_rights, .ref a_this_terms, .ref a_this_costs, .ref a_this_froms, .ref a_this_tos, .int c_this_gone, .int c_this_plans, .ref a_this_planPoint, .ref a_this_planScore, .int c_this_front, .ref a_this_frontPlan, .ref a_this_frontTies, .int c_this_picks, .ref a_this_pick, .int c_this_hasClimbed, .ref a_this_end, .ref a_this_point, .ref a_this_score, .ref a_this_by, .ref a_this_four, .ref a_this_isNear, .ref a_this_number, .ref a_this_numbers, .ref a_this_place, .ref a_this_was])), (a_this_by, .inl (cJ, 4, .inr (.inl c_this_by))), (a_this_frontPlan, .inl (cI, 2000, .inl c_this_frontPlan)), (a_this_planScore, .inl (cI, 8000, .inl c_this_planScore))] H locs → lv_has ls 9 [(0, .ref a_this), (1, .int x1), (2, .int x2), (3, .long v3_5), (5, .int v5_5)] → W p l e rm_X7_distance s m args below meth c H locs 0 0 Q (F0 m 5 ls []) := by
    intro n
    induction n with
    | zero => intro v3_5 v5_5 H locs ls hw; exact False.elim hw
    | succ n ih_5 =>
      intro v3_5 v5_5 H locs ls hw hG hl
      obtain ⟨w_5, hw_5, hw⟩ : ∃ w' : Int64 → Int32 → Prop, (∀ v3_5 v5_5, w' v3_5 v5_5 → Lp2 (b_X7_distance_5 c_this_aims c_this_front c_this_by c_this_frontPlan c_this_planScore x1 x2 kx_5) n v3_5 v5_5) ∧ b_X7_distance_5 c_this_aims c_this_front c_this_by c_this_frontPlan c_this_planScore x1 x2 kx_5 w' v3_5 v5_5 := ⟨_, fun _ _ h => h, hw⟩
      replace ih_5 : ∀ (v3_5 : Int64) (v5_5 : Int32) (H : Heap) (locs : List Loc) (ls : Array Slot), w_5 v3_5 v5_5 → HW (dC, dI) A s.heap [(a_this, .inr (6, [.int c_this_columns, .int c_this_rows, .int c_this_aims, .ref a_this_lows, .ref a_this_highs, .ref a_this_rights, .ref a_this_terms, .ref a_this_costs, .ref a_this_froms, .ref a_this_tos, .int c_this_gone, .int c_this_plans, .ref a_this_planPoint, .ref a_this_planScore, .int c_this_front, .ref a_this_frontPlan, .ref a_this_frontTies, .int c_this_picks, .ref a_this_pick, .int c_this_hasClimbed, .ref a_this_end, .ref a_this_point, .ref a_this_score, .ref a_this_by, .ref a_this_four, .ref a_this_isNear, .ref a_this_number, .ref a_this_numbers, .ref a_this_place, .ref a_this_was])), (a_this_by, .inl (cJ, 4, .inr (.inl c_this_by))), (a_this_frontPlan, .inl (cI, 2000, .inl c_this_frontPlan)), (a_this_planScore, .inl (cI, 8000, .inl c_this_planScore))] H locs → lv_has ls 9 [(0, .ref a_this), (1, .int x1), (2, .int x2), (3, .long v3_5), (5, .int v5_5)] → W p l e rm_X7_distance s m args below meth c H locs 0 0 Q (F0 m 5 ls []) := fun v3_5 v5_5 H locs ls h => ih_5 v3_5 v5_5 H locs ls (hw_5 _ _ h)
      unfold b_X7_distance_5 at hw
      refine lv_iload K.1 K.2.1 dX7_distance_5 (lv_at hl 4 rfl) ?_
      refine lv_aload_n K.1 K.2.1 dX7_distance_7 rfl (lv_at hl 0 rfl) ?_
      refine g_get (v := .int c_this_aims) K hG hin_RX7 0 rfl rfl 2 (by decide) (K.2.2.2.2.1 (.fieldLink RX7 89 "AimFrontsModel" "aims" "I") (by decide +kernel)) rfl rfl dX7_distance_8 ?_
      refine lv_icmp_ge (tgt := 104) K.1 K.2.1 dX7_distance_11 (by decide) (fun q_11 => ?_) (fun q_11 => ?_)
      · have hw := hw.1 q_11
        exact hX_5 v3_5 H locs ls hw hG (lv_sub hl [3] rfl)
      · have hw := hw.2 q_11
        refine lv_aload_n K.1 K.2.1 dX7_distance_14 rfl (lv_at hl 0 rfl) ?_
        refine lv_iload_n K.1 K.2.1 dX7_distance_15 rfl (lv_at hl 1 rfl) ?_
        refine lv_iload K.1 K.2.1 dX7_distance_16 (lv_at hl 4 rfl) ?_
        refine g_ri K hG [0, 2, 3] rfl (g_runV (As := [.int x1, .int v5_5]) (rest := []) K hG hl [0, 2, 3] rfl rfl 0 rfl rfl (k_X7_at l dC dI cI cJ cZ cG H.size a_this a_this_lows a_this_highs a_this_rights a_this_terms a_this_costs a_this_froms a_this_tos a_this_planPoint a_this_planScore a_this_frontPlan a_this_frontTies a_this_pick a_this_end a_this_point a_this_score a_this_by a_this_four a_this_isNear a_this_number a_this_numbers a_this_place a_this_was c_this_aims c_this_columns c_this_front c_this_frontPlan c_this_gone c_this_hasClimbed c_this_picks c_this_planScore c_this_plans c_this_rows x1 v5_5 _ hw) (cwV 2 K.2.2.2.2.1 gX7_distance_X7_at rfl rfl rfl (by decide +kernel) ⟨by decide, by decide⟩) rfl rfl (Nat.le_of_ble_eq_true rfl) ⟨Nat.zero_le _, Nat.zero_le _⟩ dX7_distance_18) (fun r_18 H locs hw hG => ?_)
        refine lv_aload_n K.1 K.2.1 dX7_distance_21 rfl (lv_at hl 0 rfl) ?_
        refine lv_iload K.1 K.2.1 dX7_distance_22 (lv_at hl 4 rfl) ?_
        refine g_ri K hG [0, 2, 3] rfl (g_runV (As := [.int v5_5]) (rest := [.int r_18]) K hG hl [0, 2, 3] rfl rfl 0 rfl rfl (k_X7_least l dC dI cI cJ cZ cG H.size a_this a_this_lows a_this_highs a_this_rights a_this_terms a_this_costs a_this_froms a_this_tos a_this_planPoint a_this_planScore a_this_frontPlan a_this_frontTies a_this_pick a_this_end a_this_point a_this_score a_this_by a_this_four a_this_isNear a_this_number a_this_numbers a_this_place a_this_was c_this_aims c_this_columns c_this_front c_this_frontPlan c_this_gone c_this_hasClimbed c_this_picks c_this_planScore c_this_plans c_this_rows v5_5 _ hw) (cwV 1 K.2.2.2.2.1 gX7_distance_X7_least rfl rfl rfl (by decide +kernel) ⟨by decide, by decide⟩) rfl rfl (Nat.le_of_ble_eq_true rfl) ⟨Nat.zero_le _, Nat.zero_le _⟩ dX7_distance_24) (fun r_24 H locs hw hG => ?_)
        refine lv_isub K.1 K.2.1 dX7_distance_27 ?_
        refine lv_i2l K.1 K.2.1 dX7_distance_28 rfl ?_
        refine lv_lstore (lv' := [(6, .long (((r_18 - r_24)).toInt64)), (0, .ref a_this), (1, .int x1), (2, .int x2), (3, .long v3_5), (5, .int v5_5)]) K.1 K.2.1 dX7_distance_29 hl (by decide) rfl (fun ls hl => ?_)
        refine lv_iconst (v := 0) K.1 K.2.1 dX7_distance_31 (by decide) ?_
        refine lv_istore (lv' := [(8, .int (0 : Int32)), (6, .long (((r_18 - r_24)).toInt64)), (0, .ref a_this), (1, .int x1), (2, .int x2), (3, .long v3_5), (5, .int v5_5)]) K.1 K.2.1 dX7_distance_32 hl (by decide) rfl (fun ls hl => ?_)
        obtain ⟨kx_34, hkx_34, n_34, hw⟩ := Lx1_2_abs hw
        have hX_34 : ∀ (v6_34e : Int64) (H : Heap) (locs : List Loc) (ls : Array Slot), kx_34 v6_34e → HW (dC, dI) A s.heap [(a_this, .inr (6, [.int c_this_columns, .int c_this_rows, .int c_this_aims, .ref a_this_lows, .ref a_this_highs, .ref a_this_rights, .ref a_this_terms, .ref a_this_costs, .ref a_this_froms, .ref a_this_tos, .int c_this_gone, .int c_this_plans, .ref a_this_planPoint, .ref a_this_planScore, .int c_this_front, .ref a_this_frontPlan, .ref a_this_frontTies, .int c_this_picks, .ref a_this_pick, .int c_this_hasClimbed, .ref a_this_end, .ref a_this_point, .ref a_this_score, .ref a_this_by, .ref a_this_four, .ref a_this_isNear, .ref a_this_number, .ref a_this_numbers, .ref a_this_place, .ref a_this_was])), (a_this_by, .inl (cJ, 4, .inr (.inl c_this_by))), (a_this_frontPlan, .inl (cI, 2000, .inl c_this_frontPlan)), (a_this_planScore, .inl (cI, 8000, .inl c_this_planScore))] H locs → lv_has ls 9 [(0, .ref a_this), (1, .int x1), (2, .int x2), (3, .long v3_5), (5, .int v5_5), (6, .long v6_34e)] → W p l e rm_X7_distance s m args below meth c H locs 0 0 Q (F0 m 73 ls []) := by
          intro v6_34e H locs ls hw hG hl
          have hw := hkx_34 _ hw
          refine lv_iload_n K.1 K.2.1 dX7_distance_73 rfl (lv_at hl 2 rfl) ?_
          refine lv_if_ne (tgt := 84) K.1 K.2.1 dX7_distance_74 (by decide) (fun q_74 => ?_) (fun q_74 => ?_)
          · have hw := hw.2 q_74
            refine lv_lload K.1 K.2.1 dX7_distance_84 (lv_at hl 5 rfl) ?_
            refine lv_lload_n K.1 K.2.1 dX7_distance_86 rfl (lv_at hl 3 rfl) ?_
            refine W.lcmp K.1 K.2.1 dX7_distance_87 ?_
            refine lv_if_le (tgt := 96) K.1 K.2.1 dX7_distance_88 (by decide) (fun q_88 => ?_) (fun q_88 => ?_)
            · have hw := hw.1 ((lg_cmp_le _ _).mp q_88)
              refine lv_lload_n K.1 K.2.1 dX7_distance_96 rfl (lv_at hl 3 rfl) ?_
              refine lv_lstore_n (lv' := [(3, .long v3_5), (0, .ref a_this), (1, .int x1), (2, .int x2), (5, .int v5_5), (6, .long v6_34e)]) K.1 K.2.1 dX7_distance_97 rfl hl (by decide) rfl (fun ls hl => ?_)
              refine lv_iinc (v := (v5_5 + (1 : Int32))) (lv' := [(5, .int (v5_5 + (1 : Int32))), (3, .long v3_5), (0, .ref a_this), (1, .int x1), (2, .int x2), (6, .long v6_34e)]) K.1 K.2.1 dX7_distance_98 hl (k := 4) rfl rfl (by decide) rfl (fun ls hl => ?_)
              refine lv_goto (tgt := 5) K.1 K.2.1 dX7_distance_101 (by decide) ?_
              exact ih_5 v3_5 (v5_5 + (1 : Int32)) H locs ls hw hG (lv_sub hl [2, 3, 4, 1, 0] rfl)
            · have hw := hw.2 (fun h9 => q_88 ((lg_cmp_le _ _).mpr h9))
              refine lv_lload K.1 K.2.1 dX7_distance_91 (lv_at hl 5 rfl) ?_
              refine lv_goto (tgt := 97) K.1 K.2.1 dX7_distance_93 (by decide) ?_
              refine lv_lstore_n (lv' := [(3, .long v6_34e), (0, .ref a_this), (1, .int x1), (2, .int x2), (5, .int v5_5), (6, .long v6_34e)]) K.1 K.2.1 dX7_distance_97 rfl hl (by decide) rfl (fun ls hl => ?_)
              refine lv_iinc (v := (v5_5 + (1 : Int32))) (lv' := [(5, .int (v5_5 + (1 : Int32))), (3, .long v6_34e), (0, .ref a_this), (1, .int x1), (2, .int x2), (6, .long v6_34e)]) K.1 K.2.1 dX7_distance_98 hl (k := 4) rfl rfl (by decide) rfl (fun ls hl => ?_)
              refine lv_goto (tgt := 5) K.1 K.2.1 dX7_distance_101 (by decide) ?_
              exact ih_5 v6_34e (v5_5 + (1 : Int32)) H locs ls hw hG (lv_sub hl [2, 3, 4, 1, 0] rfl)
          · have hw := hw.1 q_74
            refine lv_lload_n K.1 K.2.1 dX7_distance_77 rfl (lv_at hl 3 rfl) ?_
            refine lv_lload K.1 K.2.1 dX7_distance_78 (lv_at hl 5 rfl) ?_
            refine lv_ladd K.1 K.2.1 dX7_distance_80 ?_
            refine lv_goto (tgt := 97) K.1 K.2.1 dX7_distance_81 (by decide) ?_
            refine lv_lstore_n (lv' := [(3, .long (v3_5 + v6_34e)), (0, .ref a_this), (1, .int x1), (2, .int x2), (5, .int v5_5), (6, .long v6_34e)]) K.1 K.2.1 dX7_distance_97 rfl hl (by decide) rfl (fun ls hl => ?_)
            refine lv_iinc (v := (v5_5 + (1 : Int32))) (lv' := [(5, .int (v5_5 + (1 : Int32))), (3, .long (v3_5 + v6_34e)), (0, .ref a_this), (1, .int x1), (2, .int x2), (6, .long v6_34e)]) K.1 K.2.1 dX7_distance_98 hl (k := 4) rfl rfl (by decide) rfl (fun ls hl => ?_)
            refine lv_goto (tgt := 5) K.1 K.2.1 dX7_distance_101 (by decide) ?_
            exact ih_5 (v3_5 + v6_34e) (v5_5 + (1 : Int32)) H locs ls hw hG (lv_sub hl [2, 3, 4, 1, 0] rfl)
        have hL_34 : ∀ (n : Nat), ∀ (v6_34 : Int64) (v8_34 : Int32) (H : Heap) (locs : List Loc) (ls : Array Slot), Lp2 (b_X7_distance_34 c_this_aims c_this_by v5_5 kx_34) n v6_34 v8_34 → HW (dC, dI) A s.heap [(a_this, .inr (6, [.int c_this_columns, .int c_this_rows, .int c_this_aims, .ref a_this_lows, .ref a_this_highs, .ref a_this_rights, .ref a_this_terms, .ref a_this_costs, .ref a_this_froms, .ref a_this_tos, .int c_this_gone, .int c_this_plans, .ref a_this_planPoint, .ref a_this_planScore, .int c_this_front, .ref a_this_frontPlan, .ref a_this_frontTies, .int c_this_picks, .ref a_this_pick, .int c_this_hasClimbed, .ref a_this_end, .ref a_this_point, .ref a_this_score, .ref a_this_by, .ref a_this_four, .ref a_this_isNear, .ref a_this_number, .ref a_this_numbers, .ref a_this_place, .ref a_this_was])), (a_this_by, .inl (cJ, 4, .inr (.inl c_this_by))), (a_this_frontPlan, .inl (cI, 2000, .inl c_this_frontPlan)), (a_this_planScore, .inl (cI, 8000, .inl c_this_planScore))] H locs → lv_has ls 9 [(0, .ref a_this), (1, .int x1), (2, .int x2), (3, .long v3_5), (5, .int v5_5), (6, .long v6_34), (8, .int v8_34)] → W p l e rm_X7_distance s m args below meth c H locs 0 0 Q (F0 m 34 ls []) := by
          intro n
          induction n with
          | zero => intro v6_34 v8_34 H locs ls hw; exact False.elim hw
          | succ n ih_34 =>
            intro v6_34 v8_34 H locs ls hw hG hl
            obtain ⟨w_34, hw_34, hw⟩ : ∃ w' : Int64 → Int32 → Prop, (∀ v6_34 v8_34, w' v6_34 v8_34 → Lp2 (b_X7_distance_34 c_this_aims c_this_by v5_5 kx_34) n v6_34 v8_34) ∧ b_X7_distance_34 c_this_aims c_this_by v5_5 kx_34 w' v6_34 v8_34 := ⟨_, fun _ _ h => h, hw⟩
            replace ih_34 : ∀ (v6_34 : Int64) (v8_34 : Int32) (H : Heap) (locs : List Loc) (ls : Array Slot), w_34 v6_34 v8_34 → HW (dC, dI) A s.heap [(a_this, .inr (6, [.int c_this_columns, .int c_this_rows, .int c_this_aims, .ref a_this_lows, .ref a_this_highs, .ref a_this_rights, .ref a_this_terms, .ref a_this_costs, .ref a_this_froms, .ref a_this_tos, .int c_this_gone, .int c_this_plans, .ref a_this_planPoint, .ref a_this_planScore, .int c_this_front, .ref a_this_frontPlan, .ref a_this_frontTies, .int c_this_picks, .ref a_this_pick, .int c_this_hasClimbed, .ref a_this_end, .ref a_this_point, .ref a_this_score, .ref a_this_by, .ref a_this_four, .ref a_this_isNear, .ref a_this_number, .ref a_this_numbers, .ref a_this_place, .ref a_this_was])), (a_this_by, .inl (cJ, 4, .inr (.inl c_this_by))), (a_this_frontPlan, .inl (cI, 2000, .inl c_this_frontPlan)), (a_this_planScore, .inl (cI, 8000, .inl c_this_planScore))] H locs → lv_has ls 9 [(0, .ref a_this), (1, .int x1), (2, .int x2), (3, .long v3_5), (5, .int v5_5), (6, .long v6_34), (8, .int v8_34)] → W p l e rm_X7_distance s m args below meth c H locs 0 0 Q (F0 m 34 ls []) := fun v6_34 v8_34 H locs ls h => ih_34 v6_34 v8_34 H locs ls (hw_34 _ _ h)
            unfold b_X7_distance_34 at hw
            refine lv_iload K.1 K.2.1 dX7_distance_34 (lv_at hl 6 rfl) ?_
            refine lv_aload_n K.1 K.2.1 dX7_distance_36 rfl (lv_at hl 0 rfl) ?_
            refine g_get (v := .int c_this_aims) K hG hin_RX7 0 rfl rfl 2 (by decide) (K.2.2.2.2.1 (.fieldLink RX7 89 "AimFrontsModel" "aims" "I") (by decide +kernel)) rfl rfl dX7_distance_37 ?_
            refine lv_icmp_ge (tgt := 73) K.1 K.2.1 dX7_distance_40 (by decide) (fun q_40 => ?_) (fun q_40 => ?_)
            · have hw := hw.1 q_40
              exact hX_34 v6_34 H locs ls hw hG (lv_sub hl [0, 1, 2, 3, 4, 5] rfl)
            · have hw := hw.2 q_40
              refine lv_iload K.1 K.2.1 dX7_distance_43 (lv_at hl 6 rfl) ?_
              refine lv_iload K.1 K.2.1 dX7_distance_45 (lv_at hl 4 rfl) ?_
              refine lv_icmp_ne (tgt := 55) K.1 K.2.1 dX7_distance_47 (by decide) (fun q_47 => ?_) (fun q_47 => ?_)
              · have hw := hw.2 q_47
                refine lv_lload K.1 K.2.1 dX7_distance_55 (lv_at hl 5 rfl) ?_
                refine lv_aload_n K.1 K.2.1 dX7_distance_57 rfl (lv_at hl 0 rfl) ?_
                refine g_get (v := .ref a_this_by) K hG hin_RX7 0 rfl rfl 23 (by decide) (K.2.2.2.2.1 (.fieldLink RX7 55 "AimFrontsModel" "by" "[J") (by decide +kernel)) rfl rfl dX7_distance_58 ?_
                refine lv_iload K.1 K.2.1 dX7_distance_61 (lv_at hl 6 rfl) ?_
                obtain ⟨h_63, hw⟩ := hw
                refine g_lald K hG 1 rfl h_63 dX7_distance_63 ?_
                refine lv_lmul K.1 K.2.1 dX7_distance_64 ?_
                refine lv_lstore (lv' := [(6, .long (v6_34 * (c_this_by (v8_34).toNatClampNeg))), (0, .ref a_this), (1, .int x1), (2, .int x2), (3, .long v3_5), (5, .int v5_5), (8, .int v8_34)]) K.1 K.2.1 dX7_distance_65 hl (by decide) rfl (fun ls hl => ?_)
                refine lv_iinc (v := (v8_34 + (1 : Int32))) (lv' := [(8, .int (v8_34 + (1 : Int32))), (6, .long (v6_34 * (c_this_by (v8_34).toNatClampNeg))), (0, .ref a_this), (1, .int x1), (2, .int x2), (3, .long v3_5), (5, .int v5_5)]) K.1 K.2.1 dX7_distance_67 hl (k := 6) rfl rfl (by decide) rfl (fun ls hl => ?_)
                refine lv_goto (tgt := 34) K.1 K.2.1 dX7_distance_70 (by decide) ?_
                exact ih_34 (v6_34 * (c_this_by (v8_34).toNatClampNeg)) (v8_34 + (1 : Int32)) H locs ls hw hG (lv_sub hl [2, 3, 4, 5, 6, 1, 0] rfl)
              · have hw := hw.1 q_47
                refine lv_lload K.1 K.2.1 dX7_distance_50 (lv_at hl 5 rfl) ?_
                refine lv_goto (tgt := 65) K.1 K.2.1 dX7_distance_52 (by decide) ?_
                refine lv_lstore (lv' := [(6, .long v6_34), (0, .ref a_this), (1, .int x1), (2, .int x2), (3, .long v3_5), (5, .int v5_5), (8, .int v8_34)]) K.1 K.2.1 dX7_distance_65 hl (by decide) rfl (fun ls hl => ?_)
                refine lv_iinc (v := (v8_34 + (1 : Int32))) (lv' := [(8, .int (v8_34 + (1 : Int32))), (6, .long v6_34), (0, .ref a_this), (1, .int x1), (2, .int x2), (3, .long v3_5), (5, .int v5_5)]) K.1 K.2.1 dX7_distance_67 hl (k := 6) rfl rfl (by decide) rfl (fun ls hl => ?_)
                refine lv_goto (tgt := 34) K.1 K.2.1 dX7_distance_70 (by decide) ?_
                exact ih_34 v6_34 (v8_34 + (1 : Int32)) H locs ls hw hG (lv_sub hl [2, 3, 4, 5, 6, 1, 0] rfl)
        exact hL_34 n_34 (((r_18 - r_24)).toInt64) (0 : Int32) H locs ls hw hG (lv_sub hl [2, 3, 4, 5, 6, 1, 0] rfl)
  exact hL_5 n_5 (0 : Int64) (0 : Int32) H locs ls hw hG (lv_sub hl [2, 3, 4, 1, 0] rfl)
abbrev rm_X7_knee : Room := { frames := 4, cells := 0, slots := 0, locals := 95 }
set_option maxHeartbeats 4000000 in
set_option maxRecDepth 100000 in
theorem k_X7_knee (l : Launch) (dC : Nat → ClassId) (dI : Nat → Nat → Nat) (cI cJ cZ cG : ClassId) (sz : Nat) (a_this a_this_lows a_this_highs a_this_rights a_this_terms a_this_costs a_this_froms a_this_tos a_this_planPoint a_this_planScore a_this_frontPlan a_this_frontTies a_this_pick a_this_end a_this_point a_this_score a_this_by a_this_four a_this_isNear a_this_number a_this_numbers a_this_place a_this_was : Nat) (c_this_aims : Int32) (c_this_by : Nat → Int64) (c_this_columns : Int32) (c_this_front : Int32) (c_this_frontPlan : Nat → Int32) (c_this_gone : Int32) (c_this_hasClimbed : Int32) (c_this_picks : Int32) (c_this_planScore : Nat → Int32) (c_this_plans : Int32) (c_this_rows : Int32) (x1 : Int32) (post : Int32 → (Nat → Int64) → Prop) (hw : wp_X7_knee c_this_aims c_this_by c_this_front c_this_frontPlan c_this_planScore x1 post) : MetI l yX7_knee wsX7_knee rm_X7_knee (dC, dI) cI cJ cZ cG [.ref a_this, .int x1] sz [(a_this, .inr (6, [.int c_this_columns, .int c_this_rows, .int c_this_aims, .ref a_this_lows, .ref a_this_highs, .ref a_this_rights, .ref a_this_terms, .ref a_this_costs, .ref a_this_froms, .ref a_this_tos, .int c_this_gone, .int c_this_plans, .ref a_this_planPoint, .ref a_this_planScore, .int c_this_front, .ref a_this_frontPlan, .ref a_this_frontTies, .int c_this_picks, .ref a_this_pick, .int c_this_hasClimbed, .ref a_this_end, .ref a_this_point, .ref a_this_score, .ref a_this_by, .ref a_this_four, .ref a_this_isNear, .ref a_this_number, .ref a_this_numbers, .ref a_this_place, .ref a_this_was])), (a_this_by, .inl (cJ, 4, .inr (.inl c_this_by))), (a_this_frontPlan, .inl (cI, 2000, .inl c_this_frontPlan)), (a_this_planScore, .inl (cI, 8000, .inl c_this_planScore))] (fun (r : Int32) (u : (Nat → Int64)) => post r u) (fun u => [(a_this, .inr (6, [.int c_this_columns, .int c_this_rows, .int c_this_aims, .ref a_this_lows, .ref a_this_highs, .ref a_this_rights, .ref a_this_terms, .ref a_this_costs, .ref a_this_froms, .ref a_this_tos, .int c_this_gone, .int c_this_plans, .ref a_this_planPoint, .ref a_this_planScore, .int c_this_front, .ref a_this_frontPlan, .ref a_this_frontTies, .int c_this_picks, .ref a_this_pick, .int c_this_hasClimbed, .ref a_this_end, .ref a_this_point, .ref a_this_score, .ref a_this_by, .ref a_this_four, .ref a_this_isNear, .ref a_this_number, .ref a_this_numbers, .ref a_this_place, .ref a_this_was])), (a_this_by, .inl (cJ, 4, .inr (.inl u))), (a_this_frontPlan, .inl (cI, 2000, .inl c_this_frontPlan)), (a_this_planScore, .inl (cI, 8000, .inl c_this_planScore))]) := by
  refine met_i (ty := .int) (Or.inl rfl) (cc := cX7_knee) (maxL := 8) (by decide) rfl (Nat.le_of_ble_eq_true rfl) ?_
  intro p e s m args below meth c A Q H locs ls K hG hl hret
  have hl : lv_has ls 8 [(0, .ref a_this), (1, .int x1)] := hl
  have hin_RX7 : ∀ w ∈ u_ws RX7 TX7 30, w ∈ wsX7_knee := by decide +kernel
  unfold wp_X7_knee at hw
  refine lv_iload_n K.1 K.2.1 dX7_knee_0 rfl (lv_at hl 1 rfl) ?_
  refine lv_i2l K.1 K.2.1 dX7_knee_1 rfl ?_
  refine lv_lconst (v := 0) K.1 K.2.1 dX7_knee_2 (by decide) ?_
  refine lv_lconst (v := 1) K.1 K.2.1 dX7_knee_3 (by decide) ?_
  refine g_ri K hG [] rfl (g_runS (As := [.long (x1.toInt64), .long (0 : Int64), .long (1 : Int64)]) (rest := []) K hG hl [] rfl rfl (k_X7_in l dC dI cI cJ cZ cG H.size (x1.toInt64) (0 : Int64) (1 : Int64) _ hw) (va_cwS 3 K.2.2.2.2.1 gX7_knee_X7_in rfl rfl rfl (by decide +kernel) ⟨by decide, by decide⟩) rfl rfl (Nat.le_of_ble_eq_true rfl) ⟨Nat.zero_le _, Nat.zero_le _⟩ dX7_knee_4) (fun r_4 H locs hw hG => ?_)
  refine lv_if_ne (tgt := 13) K.1 K.2.1 dX7_knee_7 (by decide) (fun q_7 => ?_) (fun q_7 => ?_)
  · have hw := hw.2 q_7
    refine lv_aload_n K.1 K.2.1 dX7_knee_13 rfl (lv_at hl 0 rfl) ?_
    refine g_get (v := .int c_this_front) K hG hin_RX7 0 rfl rfl 14 (by decide) (K.2.2.2.2.1 (.fieldLink RX7 98 "AimFrontsModel" "front" "I") (by decide +kernel)) rfl rfl dX7_knee_14 ?_
    refine lv_if_ne (tgt := 23) K.1 K.2.1 dX7_knee_17 (by decide) (fun q_17 => ?_) (fun q_17 => ?_)
    · have hw := hw.2 q_17
      refine lv_iconst (v := 0) K.1 K.2.1 dX7_knee_23 (by decide) ?_
      refine lv_istore_n (lv' := [(2, .int (0 : Int32)), (0, .ref a_this), (1, .int x1)]) K.1 K.2.1 dX7_knee_24 rfl hl (by decide) rfl (fun ls hl => ?_)
      obtain ⟨kx_25, hkx_25, n_25, hw⟩ := Lx1_2_abs hw
      have hX_25 : ∀ (c_this_by_25e : Nat → Int64) (H : Heap) (locs : List Loc) (ls : Array Slot), kx_25 c_this_by_25e → HW (dC, dI) A s.heap [(a_this, .inr (6, [.int c_this_columns, .int c_this_rows, .int c_this_aims, .ref a_this_lows, .ref a_this_highs, .ref a_this_rights, .ref a_this_terms, .ref a_this_costs, .ref a_this_froms, .ref a_this_tos, .int c_this_gone, .int c_this_plans, .ref a_this_planPoint, .ref a_this_planScore, .int c_this_front, .ref a_this_frontPlan, .ref a_this_frontTies, .int c_this_picks, .ref a_this_pick, .int c_this_hasClimbed, .ref a_this_end, .ref a_this_point, .ref a_this_score, .ref a_this_by, .ref a_this_four, .ref a_this_isNear, .ref a_this_number, .ref a_this_numbers, .ref a_this_place, .ref a_this_was])), (a_this_by, .inl (cJ, 4, .inr (.inl c_this_by_25e))), (a_this_frontPlan, .inl (cI, 2000, .inl c_this_frontPlan)), (a_this_planScore, .inl (cI, 8000, .inl c_this_planScore))] H locs → lv_has ls 8 [(0, .ref a_this), (1, .int x1)] → W p l e rm_X7_knee s m args below meth c H locs 0 0 Q (F0 m 69 ls []) := by
        intro c_this_by_25e H locs ls hw hG hl
        have hw := hkx_25 _ hw
        refine lv_iconst (v := 0) K.1 K.2.1 dX7_knee_69 (by decide) ?_
        refine lv_istore_n (lv' := [(2, .int (0 : Int32)), (0, .ref a_this), (1, .int x1)]) K.1 K.2.1 dX7_knee_70 rfl hl (by decide) rfl (fun ls hl => ?_)
        refine lv_aload_n K.1 K.2.1 dX7_knee_71 rfl (lv_at hl 1 rfl) ?_
        refine lv_iconst (v := 0) K.1 K.2.1 dX7_knee_72 (by decide) ?_
        refine lv_iload_n K.1 K.2.1 dX7_knee_73 rfl (lv_at hl 2 rfl) ?_
        refine g_rl K hG [0, 1, 2, 3] rfl (g_runV (As := [.int (0 : Int32), .int x1]) (rest := []) K hG hl [0, 1, 2, 3] rfl rfl 0 rfl rfl (k_X7_distance l dC dI cI cJ cZ cG H.size a_this a_this_lows a_this_highs a_this_rights a_this_terms a_this_costs a_this_froms a_this_tos a_this_planPoint a_this_planScore a_this_frontPlan a_this_frontTies a_this_pick a_this_end a_this_point a_this_score a_this_by a_this_four a_this_isNear a_this_number a_this_numbers a_this_place a_this_was c_this_aims c_this_by_25e c_this_columns c_this_front c_this_frontPlan c_this_gone c_this_hasClimbed c_this_picks c_this_planScore c_this_plans c_this_rows (0 : Int32) x1 _ hw) (cwV 2 K.2.2.2.2.1 gX7_knee_X7_distance rfl rfl rfl (by decide +kernel) ⟨by decide, by decide⟩) rfl rfl (Nat.le_of_ble_eq_true rfl) ⟨Nat.zero_le _, Nat.zero_le _⟩ dX7_knee_74) (fun r_74 H locs hw hG => ?_)
        refine lv_lstore_n (lv' := [(3, .long r_74), (2, .int (0 : Int32)), (0, .ref a_this), (1, .int x1)]) K.1 K.2.1 dX7_knee_77 rfl hl (by decide) rfl (fun ls hl => ?_)
        refine lv_iconst (v := 1) K.1 K.2.1 dX7_knee_78 (by decide) ?_
        refine lv_istore (lv' := [(5, .int (1 : Int32)), (3, .long r_74), (2, .int (0 : Int32)), (0, .ref a_this), (1, .int x1)]) K.1 K.2.1 dX7_knee_79 hl (by decide) rfl (fun ls hl => ?_)
        obtain ⟨kx_81, hkx_81, n_81, hw⟩ := Lx1_3_abs hw
        have hX_81 : ∀ (v2_81e : Int32) (H : Heap) (locs : List Loc) (ls : Array Slot), kx_81 v2_81e → HW (dC, dI) A s.heap [(a_this, .inr (6, [.int c_this_columns, .int c_this_rows, .int c_this_aims, .ref a_this_lows, .ref a_this_highs, .ref a_this_rights, .ref a_this_terms, .ref a_this_costs, .ref a_this_froms, .ref a_this_tos, .int c_this_gone, .int c_this_plans, .ref a_this_planPoint, .ref a_this_planScore, .int c_this_front, .ref a_this_frontPlan, .ref a_this_frontTies, .int c_this_picks, .ref a_this_pick, .int c_this_hasClimbed, .ref a_this_end, .ref a_this_point, .ref a_this_score, .ref a_this_by, .ref a_this_four, .ref a_this_isNear, .ref a_this_number, .ref a_this_numbers, .ref a_this_place, .ref a_this_was])), (a_this_by, .inl (cJ, 4, .inr (.inl c_this_by_25e))), (a_this_frontPlan, .inl (cI, 2000, .inl c_this_frontPlan)), (a_this_planScore, .inl (cI, 8000, .inl c_this_planScore))] H locs → lv_has ls 8 [(2, .int v2_81e)] → W p l e rm_X7_knee s m args below meth c H locs 0 0 Q (F0 m 133 ls []) := by
          intro v2_81e H locs ls hw hG hl
          have hw := hkx_81 _ hw
          refine lv_iload_n K.1 K.2.1 dX7_knee_133 rfl (lv_at hl 0 rfl) ?_
          exact hret v2_81e c_this_by_25e H locs _ ls dX7_knee_134 rfl hw hG
        have hL_81 : ∀ (n : Nat), ∀ (v2_81 : Int32) (v3_81 : Int64) (v5_81 : Int32) (H : Heap) (locs : List Loc) (ls : Array Slot), Lp3 (b_X7_knee_81 c_this_aims c_this_front c_this_frontPlan c_this_planScore x1 c_this_by_25e kx_81) n v2_81 v3_81 v5_81 → HW (dC, dI) A s.heap [(a_this, .inr (6, [.int c_this_columns, .int c_this_rows, .int c_this_aims, .ref a_this_lows, .ref a_this_highs, .ref a_this_rights, .ref a_this_terms, .ref a_this_costs, .ref a_this_froms, .ref a_this_tos, .int c_this_gone, .int c_this_plans, .ref a_this_planPoint, .ref a_this_planScore, .int c_this_front, .ref a_this_frontPlan, .ref a_this_frontTies, .int c_this_picks, .ref a_this_pick, .int c_this_hasClimbed, .ref a_this_end, .ref a_this_point, .ref a_this_score, .ref a_this_by, .ref a_this_four, .ref a_this_isNear, .ref a_this_number, .ref a_this_numbers, .ref a_this_place, .ref a_this_was])), (a_this_by, .inl (cJ, 4, .inr (.inl c_this_by_25e))), (a_this_frontPlan, .inl (cI, 2000, .inl c_this_frontPlan)), (a_this_planScore, .inl (cI, 8000, .inl c_this_planScore))] H locs → lv_has ls 8 [(0, .ref a_this), (1, .int x1), (2, .int v2_81), (3, .long v3_81), (5, .int v5_81)] → W p l e rm_X7_knee s m args below meth c H locs 0 0 Q (F0 m 81 ls []) := by
          intro n
          induction n with
          | zero => intro v2_81 v3_81 v5_81 H locs ls hw; exact False.elim hw
          | succ n ih_81 =>
            intro v2_81 v3_81 v5_81 H locs ls hw hG hl
            obtain ⟨w_81, hw_81, hw⟩ : ∃ w' : Int32 → Int64 → Int32 → Prop, (∀ v2_81 v3_81 v5_81, w' v2_81 v3_81 v5_81 → Lp3 (b_X7_knee_81 c_this_aims c_this_front c_this_frontPlan c_this_planScore x1 c_this_by_25e kx_81) n v2_81 v3_81 v5_81) ∧ b_X7_knee_81 c_this_aims c_this_front c_this_frontPlan c_this_planScore x1 c_this_by_25e kx_81 w' v2_81 v3_81 v5_81 := ⟨_, fun _ _ _ h => h, hw⟩
            replace ih_81 : ∀ (v2_81 : Int32) (v3_81 : Int64) (v5_81 : Int32) (H : Heap) (locs : List Loc) (ls : Array Slot), w_81 v2_81 v3_81 v5_81 → HW (dC, dI) A s.heap [(a_this, .inr (6, [.int c_this_columns, .int c_this_rows, .int c_this_aims, .ref a_this_lows, .ref a_this_highs, .ref a_this_rights, .ref a_this_terms, .ref a_this_costs, .ref a_this_froms, .ref a_this_tos, .int c_this_gone, .int c_this_plans, .ref a_this_planPoint, .ref a_this_planScore, .int c_this_front, .ref a_this_frontPlan, .ref a_this_frontTies, .int c_this_picks, .ref a_this_pick, .int c_this_hasClimbed, .ref a_this_end, .ref a_this_point, .ref a_this_score, .ref a_this_by, .ref a_this_four, .ref a_this_isNear, .ref a_this_number, .ref a_this_numbers, .ref a_this_place, .ref a_this_was])), (a_this_by, .inl (cJ, 4, .inr (.inl c_this_by_25e))), (a_this_frontPlan, .inl (cI, 2000, .inl c_this_frontPlan)), (a_this_planScore, .inl (cI, 8000, .inl c_this_planScore))] H locs → lv_has ls 8 [(0, .ref a_this), (1, .int x1), (2, .int v2_81), (3, .long v3_81), (5, .int v5_81)] → W p l e rm_X7_knee s m args below meth c H locs 0 0 Q (F0 m 81 ls []) := fun v2_81 v3_81 v5_81 H locs ls h => ih_81 v2_81 v3_81 v5_81 H locs ls (hw_81 _ _ _ h)
            unfold b_X7_knee_81 at hw
            refine lv_iload K.1 K.2.1 dX7_knee_81 (lv_at hl 4 rfl) ?_
            refine lv_aload_n K.1 K.2.1 dX7_knee_83 rfl (lv_at hl 0 rfl) ?_
            refine g_get (v := .int c_this_front) K hG hin_RX7 0 rfl rfl 14 (by decide) (K.2.2.2.2.1 (.fieldLink RX7 98 "AimFrontsModel" "front" "I") (by decide +kernel)) rfl rfl dX7_knee_84 ?_
            refine lv_icmp_ge (tgt := 133) K.1 K.2.1 dX7_knee_87 (by decide) (fun q_87 => ?_) (fun q_87 => ?_)
            · have hw := hw.1 q_87
              exact hX_81 v2_81 H locs ls hw hG (lv_sub hl [2] rfl)
            · have hw := hw.2 q_87
              refine lv_aload_n K.1 K.2.1 dX7_knee_90 rfl (lv_at hl 0 rfl) ?_
              refine lv_iload K.1 K.2.1 dX7_knee_91 (lv_at hl 4 rfl) ?_
              refine lv_iload_n K.1 K.2.1 dX7_knee_93 rfl (lv_at hl 1 rfl) ?_
              refine g_rl K hG [0, 1, 2, 3] rfl (g_runV (As := [.int v5_81, .int x1]) (rest := []) K hG hl [0, 1, 2, 3] rfl rfl 0 rfl rfl (k_X7_distance l dC dI cI cJ cZ cG H.size a_this a_this_lows a_this_highs a_this_rights a_this_terms a_this_costs a_this_froms a_this_tos a_this_planPoint a_this_planScore a_this_frontPlan a_this_frontTies a_this_pick a_this_end a_this_point a_this_score a_this_by a_this_four a_this_isNear a_this_number a_this_numbers a_this_place a_this_was c_this_aims c_this_by_25e c_this_columns c_this_front c_this_frontPlan c_this_gone c_this_hasClimbed c_this_picks c_this_planScore c_this_plans c_this_rows v5_81 x1 _ hw) (cwV 2 K.2.2.2.2.1 gX7_knee_X7_distance rfl rfl rfl (by decide +kernel) ⟨by decide, by decide⟩) rfl rfl (Nat.le_of_ble_eq_true rfl) ⟨Nat.zero_le _, Nat.zero_le _⟩ dX7_knee_94) (fun r_94 H locs hw hG => ?_)
              refine lv_lstore (lv' := [(6, .long r_94), (0, .ref a_this), (1, .int x1), (2, .int v2_81), (3, .long v3_81), (5, .int v5_81)]) K.1 K.2.1 dX7_knee_97 hl (by decide) rfl (fun ls hl => ?_)
              refine lv_lload K.1 K.2.1 dX7_knee_99 (lv_at hl 0 rfl) ?_
              refine lv_lload_n K.1 K.2.1 dX7_knee_101 rfl (lv_at hl 4 rfl) ?_
              refine W.lcmp K.1 K.2.1 dX7_knee_102 ?_
              obtain ⟨k_j112, hk_j112, hw⟩ := jn1_abs hw
              have hJ_j112 : ∀ (s0_j112 : Int32) (H : Heap) (locs : List Loc) (ls : Array Slot), k_j112 s0_j112 → HW (dC, dI) A s.heap [(a_this, .inr (6, [.int c_this_columns, .int c_this_rows, .int c_this_aims, .ref a_this_lows, .ref a_this_highs, .ref a_this_rights, .ref a_this_terms, .ref a_this_costs, .ref a_this_froms, .ref a_this_tos, .int c_this_gone, .int c_this_plans, .ref a_this_planPoint, .ref a_this_planScore, .int c_this_front, .ref a_this_frontPlan, .ref a_this_frontTies, .int c_this_picks, .ref a_this_pick, .int c_this_hasClimbed, .ref a_this_end, .ref a_this_point, .ref a_this_score, .ref a_this_by, .ref a_this_four, .ref a_this_isNear, .ref a_this_number, .ref a_this_numbers, .ref a_this_place, .ref a_this_was])), (a_this_by, .inl (cJ, 4, .inr (.inl c_this_by_25e))), (a_this_frontPlan, .inl (cI, 2000, .inl c_this_frontPlan)), (a_this_planScore, .inl (cI, 8000, .inl c_this_planScore))] H locs → lv_has ls 8 [(0, .ref a_this), (1, .int x1), (3, .long v3_81), (5, .int v5_81), (6, .long r_94)] → W p l e rm_X7_knee s m args below meth c H locs 0 0 Q (F0 m 112 ls [.int s0_j112]) := by
                intro s0_j112 H locs ls hw hG hl
                have hw := hk_j112 _ hw
                refine lv_istore_n (lv' := [(2, .int s0_j112), (0, .ref a_this), (1, .int x1), (3, .long v3_81), (5, .int v5_81), (6, .long r_94)]) K.1 K.2.1 dX7_knee_112 rfl hl (by decide) rfl (fun ls hl => ?_)
                refine lv_lload K.1 K.2.1 dX7_knee_113 (lv_at hl 5 rfl) ?_
                refine lv_lload_n K.1 K.2.1 dX7_knee_115 rfl (lv_at hl 3 rfl) ?_
                refine W.lcmp K.1 K.2.1 dX7_knee_116 ?_
                refine lv_if_ge (tgt := 125) K.1 K.2.1 dX7_knee_117 (by decide) (fun q_117 => ?_) (fun q_117 => ?_)
                · have hw := hw.1 ((lg_cmp_ge _ _).mp q_117)
                  refine lv_lload_n K.1 K.2.1 dX7_knee_125 rfl (lv_at hl 3 rfl) ?_
                  refine lv_lstore_n (lv' := [(3, .long v3_81), (2, .int s0_j112), (0, .ref a_this), (1, .int x1), (5, .int v5_81), (6, .long r_94)]) K.1 K.2.1 dX7_knee_126 rfl hl (by decide) rfl (fun ls hl => ?_)
                  refine lv_iinc (v := (v5_81 + (1 : Int32))) (lv' := [(5, .int (v5_81 + (1 : Int32))), (3, .long v3_81), (2, .int s0_j112), (0, .ref a_this), (1, .int x1), (6, .long r_94)]) K.1 K.2.1 dX7_knee_127 hl (k := 4) rfl rfl (by decide) rfl (fun ls hl => ?_)
                  refine lv_goto (tgt := 81) K.1 K.2.1 dX7_knee_130 (by decide) ?_
                  exact ih_81 s0_j112 v3_81 (v5_81 + (1 : Int32)) H locs ls hw hG (lv_sub hl [3, 4, 2, 1, 0] rfl)
                · have hw := hw.2 (fun h9 => q_117 ((lg_cmp_ge _ _).mpr h9))
                  refine lv_lload K.1 K.2.1 dX7_knee_120 (lv_at hl 5 rfl) ?_
                  refine lv_goto (tgt := 126) K.1 K.2.1 dX7_knee_122 (by decide) ?_
                  refine lv_lstore_n (lv' := [(3, .long r_94), (2, .int s0_j112), (0, .ref a_this), (1, .int x1), (5, .int v5_81), (6, .long r_94)]) K.1 K.2.1 dX7_knee_126 rfl hl (by decide) rfl (fun ls hl => ?_)
                  refine lv_iinc (v := (v5_81 + (1 : Int32))) (lv' := [(5, .int (v5_81 + (1 : Int32))), (3, .long r_94), (2, .int s0_j112), (0, .ref a_this), (1, .int x1), (6, .long r_94)]) K.1 K.2.1 dX7_knee_127 hl (k := 4) rfl rfl (by decide) rfl (fun ls hl => ?_)
                  refine lv_goto (tgt := 81) K.1 K.2.1 dX7_knee_130 (by decide) ?_
                  exact ih_81 s0_j112 r_94 (v5_81 + (1 : Int32)) H locs ls hw hG (lv_sub hl [3, 4, 2, 1, 0] rfl)
              refine lv_if_ge (tgt := 111) K.1 K.2.1 dX7_knee_103 (by decide) (fun q_103 => ?_) (fun q_103 => ?_)
              · have hw := hw.1 ((lg_cmp_ge _ _).mp q_103)
                refine lv_iload_n K.1 K.2.1 dX7_knee_111 rfl (lv_at hl 3 rfl) ?_
                exact hJ_j112 v2_81 H locs ls hw hG (lv_sub hl [1, 2, 4, 5, 0] rfl)
              · have hw := hw.2 (fun h9 => q_103 ((lg_cmp_ge _ _).mpr h9))
                refine lv_iload K.1 K.2.1 dX7_knee_106 (lv_at hl 5 rfl) ?_
                refine lv_goto (tgt := 112) K.1 K.2.1 dX7_knee_108 (by decide) ?_
                exact hJ_j112 v5_81 H locs ls hw hG (lv_sub hl [1, 2, 4, 5, 0] rfl)
        exact hL_81 n_81 (0 : Int32) r_74 (1 : Int32) H locs ls hw hG (lv_sub hl [3, 4, 2, 1, 0] rfl)
      have hL_25 : ∀ (n : Nat), ∀ (v2_25 : Int32) (c_this_by_25 : Nat → Int64) (H : Heap) (locs : List Loc) (ls : Array Slot), Lp2 (b_X7_knee_25 c_this_aims c_this_front c_this_frontPlan c_this_planScore kx_25) n v2_25 c_this_by_25 → HW (dC, dI) A s.heap [(a_this, .inr (6, [.int c_this_columns, .int c_this_rows, .int c_this_aims, .ref a_this_lows, .ref a_this_highs, .ref a_this_rights, .ref a_this_terms, .ref a_this_costs, .ref a_this_froms, .ref a_this_tos, .int c_this_gone, .int c_this_plans, .ref a_this_planPoint, .ref a_this_planScore, .int c_this_front, .ref a_this_frontPlan, .ref a_this_frontTies, .int c_this_picks, .ref a_this_pick, .int c_this_hasClimbed, .ref a_this_end, .ref a_this_point, .ref a_this_score, .ref a_this_by, .ref a_this_four, .ref a_this_isNear, .ref a_this_number, .ref a_this_numbers, .ref a_this_place, .ref a_this_was])), (a_this_by, .inl (cJ, 4, .inr (.inl c_this_by_25))), (a_this_frontPlan, .inl (cI, 2000, .inl c_this_frontPlan)), (a_this_planScore, .inl (cI, 8000, .inl c_this_planScore))] H locs → lv_has ls 8 [(0, .ref a_this), (1, .int x1), (2, .int v2_25)] → W p l e rm_X7_knee s m args below meth c H locs 0 0 Q (F0 m 25 ls []) := by
        intro n
        induction n with
        | zero => intro v2_25 c_this_by_25 H locs ls hw; exact False.elim hw
        | succ n ih_25 =>
          intro v2_25 c_this_by_25 H locs ls hw hG hl
          obtain ⟨w_25, hw_25, hw⟩ : ∃ w' : Int32 → (Nat → Int64) → Prop, (∀ v2_25 c_this_by_25, w' v2_25 c_this_by_25 → Lp2 (b_X7_knee_25 c_this_aims c_this_front c_this_frontPlan c_this_planScore kx_25) n v2_25 c_this_by_25) ∧ b_X7_knee_25 c_this_aims c_this_front c_this_frontPlan c_this_planScore kx_25 w' v2_25 c_this_by_25 := ⟨_, fun _ _ h => h, hw⟩
          replace ih_25 : ∀ (v2_25 : Int32) (c_this_by_25 : Nat → Int64) (H : Heap) (locs : List Loc) (ls : Array Slot), w_25 v2_25 c_this_by_25 → HW (dC, dI) A s.heap [(a_this, .inr (6, [.int c_this_columns, .int c_this_rows, .int c_this_aims, .ref a_this_lows, .ref a_this_highs, .ref a_this_rights, .ref a_this_terms, .ref a_this_costs, .ref a_this_froms, .ref a_this_tos, .int c_this_gone, .int c_this_plans, .ref a_this_planPoint, .ref a_this_planScore, .int c_this_front, .ref a_this_frontPlan, .ref a_this_frontTies, .int c_this_picks, .ref a_this_pick, .int c_this_hasClimbed, .ref a_this_end, .ref a_this_point, .ref a_this_score, .ref a_this_by, .ref a_this_four, .ref a_this_isNear, .ref a_this_number, .ref a_this_numbers, .ref a_this_place, .ref a_this_was])), (a_this_by, .inl (cJ, 4, .inr (.inl c_this_by_25))), (a_this_frontPlan, .inl (cI, 2000, .inl c_this_frontPlan)), (a_this_planScore, .inl (cI, 8000, .inl c_this_planScore))] H locs → lv_has ls 8 [(0, .ref a_this), (1, .int x1), (2, .int v2_25)] → W p l e rm_X7_knee s m args below meth c H locs 0 0 Q (F0 m 25 ls []) := fun v2_25 c_this_by_25 H locs ls h => ih_25 v2_25 c_this_by_25 H locs ls (hw_25 _ _ h)
          unfold b_X7_knee_25 at hw
          refine lv_iload_n K.1 K.2.1 dX7_knee_25 rfl (lv_at hl 2 rfl) ?_
          refine lv_aload_n K.1 K.2.1 dX7_knee_26 rfl (lv_at hl 0 rfl) ?_
          refine g_get (v := .int c_this_aims) K hG hin_RX7 0 rfl rfl 2 (by decide) (K.2.2.2.2.1 (.fieldLink RX7 89 "AimFrontsModel" "aims" "I") (by decide +kernel)) rfl rfl dX7_knee_27 ?_
          refine lv_icmp_ge (tgt := 69) K.1 K.2.1 dX7_knee_30 (by decide) (fun q_30 => ?_) (fun q_30 => ?_)
          · have hw := hw.1 q_30
            exact hX_25 c_this_by_25 H locs ls hw hG (lv_sub hl [0, 1] rfl)
          · have hw := hw.2 q_30
            refine lv_aload_n K.1 K.2.1 dX7_knee_33 rfl (lv_at hl 0 rfl) ?_
            refine lv_iload_n K.1 K.2.1 dX7_knee_34 rfl (lv_at hl 2 rfl) ?_
            refine g_ri K hG [0, 2, 3] rfl (g_runV (As := [.int v2_25]) (rest := []) K hG hl [0, 2, 3] rfl rfl 0 rfl rfl (k_X7_greatest l dC dI cI cJ cZ cG H.size a_this a_this_lows a_this_highs a_this_rights a_this_terms a_this_costs a_this_froms a_this_tos a_this_planPoint a_this_planScore a_this_frontPlan a_this_frontTies a_this_pick a_this_end a_this_point a_this_score a_this_by a_this_four a_this_isNear a_this_number a_this_numbers a_this_place a_this_was c_this_aims c_this_columns c_this_front c_this_frontPlan c_this_gone c_this_hasClimbed c_this_picks c_this_planScore c_this_plans c_this_rows v2_25 _ hw) (cwV 1 K.2.2.2.2.1 gX7_knee_X7_greatest rfl rfl rfl (by decide +kernel) ⟨by decide, by decide⟩) rfl rfl (Nat.le_of_ble_eq_true rfl) ⟨Nat.zero_le _, Nat.zero_le _⟩ dX7_knee_35) (fun r_35 H locs hw hG => ?_)
            refine lv_aload_n K.1 K.2.1 dX7_knee_38 rfl (lv_at hl 0 rfl) ?_
            refine lv_iload_n K.1 K.2.1 dX7_knee_39 rfl (lv_at hl 2 rfl) ?_
            refine g_ri K hG [0, 2, 3] rfl (g_runV (As := [.int v2_25]) (rest := [.int r_35]) K hG hl [0, 2, 3] rfl rfl 0 rfl rfl (k_X7_least l dC dI cI cJ cZ cG H.size a_this a_this_lows a_this_highs a_this_rights a_this_terms a_this_costs a_this_froms a_this_tos a_this_planPoint a_this_planScore a_this_frontPlan a_this_frontTies a_this_pick a_this_end a_this_point a_this_score a_this_by a_this_four a_this_isNear a_this_number a_this_numbers a_this_place a_this_was c_this_aims c_this_columns c_this_front c_this_frontPlan c_this_gone c_this_hasClimbed c_this_picks c_this_planScore c_this_plans c_this_rows v2_25 _ hw) (cwV 1 K.2.2.2.2.1 gX7_knee_X7_least rfl rfl rfl (by decide +kernel) ⟨by decide, by decide⟩) rfl rfl (Nat.le_of_ble_eq_true rfl) ⟨Nat.zero_le _, Nat.zero_le _⟩ dX7_knee_40) (fun r_40 H locs hw hG => ?_)
            refine lv_isub K.1 K.2.1 dX7_knee_43 ?_
            refine lv_i2l K.1 K.2.1 dX7_knee_44 rfl ?_
            refine lv_lstore_n (lv' := [(3, .long (((r_35 - r_40)).toInt64)), (0, .ref a_this), (1, .int x1), (2, .int v2_25)]) K.1 K.2.1 dX7_knee_45 rfl hl (by decide) rfl (fun ls hl => ?_)
            refine lv_aload_n K.1 K.2.1 dX7_knee_46 rfl (lv_at hl 1 rfl) ?_
            refine g_get (v := .ref a_this_by) K hG hin_RX7 0 rfl rfl 23 (by decide) (K.2.2.2.2.1 (.fieldLink RX7 55 "AimFrontsModel" "by" "[J") (by decide +kernel)) rfl rfl dX7_knee_47 ?_
            refine lv_iload_n K.1 K.2.1 dX7_knee_50 rfl (lv_at hl 3 rfl) ?_
            refine lv_lload_n K.1 K.2.1 dX7_knee_51 rfl (lv_at hl 0 rfl) ?_
            refine lv_lconst (v := 0) K.1 K.2.1 dX7_knee_52 (by decide) ?_
            refine W.lcmp K.1 K.2.1 dX7_knee_53 ?_
            refine lv_if_ne (tgt := 61) K.1 K.2.1 dX7_knee_54 (by decide) (fun q_54 => ?_) (fun q_54 => ?_)
            · have hw := hw.2 (fun h9 => q_54 ((lg_cmp_eq _ _).mpr h9))
              refine lv_lload_n K.1 K.2.1 dX7_knee_61 rfl (lv_at hl 0 rfl) ?_
              obtain ⟨h_62, hw⟩ := hw
              refine g_last (ws' := [(a_this, .inr (6, [.int c_this_columns, .int c_this_rows, .int c_this_aims, .ref a_this_lows, .ref a_this_highs, .ref a_this_rights, .ref a_this_terms, .ref a_this_costs, .ref a_this_froms, .ref a_this_tos, .int c_this_gone, .int c_this_plans, .ref a_this_planPoint, .ref a_this_planScore, .int c_this_front, .ref a_this_frontPlan, .ref a_this_frontTies, .int c_this_picks, .ref a_this_pick, .int c_this_hasClimbed, .ref a_this_end, .ref a_this_point, .ref a_this_score, .ref a_this_by, .ref a_this_four, .ref a_this_isNear, .ref a_this_number, .ref a_this_numbers, .ref a_this_place, .ref a_this_was])), (a_this_by, .inl (cJ, 4, .inr (.inl (vp_updL c_this_by_25 (v2_25).toNatClampNeg (((r_35 - r_40)).toInt64))))), (a_this_frontPlan, .inl (cI, 2000, .inl c_this_frontPlan)), (a_this_planScore, .inl (cI, 8000, .inl c_this_planScore))]) K hG 1 rfl h_62 rfl dX7_knee_62 (fun H locs hG => ?_)
              refine lv_iinc (v := (v2_25 + (1 : Int32))) (lv' := [(2, .int (v2_25 + (1 : Int32))), (3, .long (((r_35 - r_40)).toInt64)), (0, .ref a_this), (1, .int x1)]) K.1 K.2.1 dX7_knee_63 hl (k := 3) rfl rfl (by decide) rfl (fun ls hl => ?_)
              refine lv_goto (tgt := 25) K.1 K.2.1 dX7_knee_66 (by decide) ?_
              exact ih_25 (v2_25 + (1 : Int32)) (vp_updL c_this_by_25 (v2_25).toNatClampNeg (((r_35 - r_40)).toInt64)) H locs ls hw hG (lv_sub hl [2, 3, 0] rfl)
            · have hw := hw.1 ((lg_cmp_eq _ _).mp q_54)
              refine lv_lconst (v := 1) K.1 K.2.1 dX7_knee_57 (by decide) ?_
              refine lv_goto (tgt := 62) K.1 K.2.1 dX7_knee_58 (by decide) ?_
              obtain ⟨h_62, hw⟩ := hw
              refine g_last (ws' := [(a_this, .inr (6, [.int c_this_columns, .int c_this_rows, .int c_this_aims, .ref a_this_lows, .ref a_this_highs, .ref a_this_rights, .ref a_this_terms, .ref a_this_costs, .ref a_this_froms, .ref a_this_tos, .int c_this_gone, .int c_this_plans, .ref a_this_planPoint, .ref a_this_planScore, .int c_this_front, .ref a_this_frontPlan, .ref a_this_frontTies, .int c_this_picks, .ref a_this_pick, .int c_this_hasClimbed, .ref a_this_end, .ref a_this_point, .ref a_this_score, .ref a_this_by, .ref a_this_four, .ref a_this_isNear, .ref a_this_number, .ref a_this_numbers, .ref a_this_place, .ref a_this_was])), (a_this_by, .inl (cJ, 4, .inr (.inl (vp_updL c_this_by_25 (v2_25).toNatClampNeg (1 : Int64))))), (a_this_frontPlan, .inl (cI, 2000, .inl c_this_frontPlan)), (a_this_planScore, .inl (cI, 8000, .inl c_this_planScore))]) K hG 1 rfl h_62 rfl dX7_knee_62 (fun H locs hG => ?_)
              refine lv_iinc (v := (v2_25 + (1 : Int32))) (lv' := [(2, .int (v2_25 + (1 : Int32))), (3, .long (((r_35 - r_40)).toInt64)), (0, .ref a_this), (1, .int x1)]) K.1 K.2.1 dX7_knee_63 hl (k := 3) rfl rfl (by decide) rfl (fun ls hl => ?_)
              refine lv_goto (tgt := 25) K.1 K.2.1 dX7_knee_66 (by decide) ?_
              exact ih_25 (v2_25 + (1 : Int32)) (vp_updL c_this_by_25 (v2_25).toNatClampNeg (1 : Int64)) H locs ls hw hG (lv_sub hl [2, 3, 0] rfl)
      exact hL_25 n_25 (0 : Int32) c_this_by H locs ls hw hG (lv_sub hl [1, 2, 0] rfl)
    · have hw := hw.1 q_17
      refine lv_ldc (v := -1000002) K.1 K.2.1 K.2.2.2.1 (K.2.2.2.2.1 (.constant RX7 161 (-1000002)) (by decide +kernel)) dX7_knee_20 ?_
      exact hret (-1000002 : Int32) c_this_by H locs _ ls dX7_knee_22 rfl hw hG
  · have hw := hw.1 q_7
    refine lv_ldc (v := -1000001) K.1 K.2.1 K.2.2.2.1 (K.2.2.2.2.1 (.constant RX7 112 (-1000001)) (by decide +kernel)) dX7_knee_10 ?_
    exact hret (-1000001 : Int32) c_this_by H locs _ ls dX7_knee_12 rfl hw hG

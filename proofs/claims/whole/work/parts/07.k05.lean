abbrev rm_X6_left : Room := { frames := 0, cells := 0, slots := 0, locals := 0 }
set_option maxHeartbeats 4000000 in
set_option maxRecDepth 100000 in
theorem k_X6_left (l : Launch) (dC : Nat → ClassId) (dI : Nat → Nat → Nat) (cI cJ cZ cG : ClassId) (sz : Nat) (a_this a_this_task a_this_front a_this_cover a_this_behind a_this_climber a_this_numbers a_this_asked a_this_task_low a_this_task_high a_this_task_right a_this_task_terms a_this_task_from a_this_task_to a_this_task_costs : Nat) (c_this_gone : Int32) (c_this_met : Int32) (c_this_task_aims : Int32) (c_this_task_columns : Int32) (c_this_task_points : Int32) (c_this_task_rows : Int32) (post : Int32 → Prop) (hw : wp_X6_left c_this_gone c_this_task_points post) : MetI l yX6_left wsX6_left rm_X6_left (dC, dI) cI cJ cZ cG [.ref a_this] sz [(a_this, .inr (5, [.ref a_this_task, .ref a_this_front, .ref a_this_cover, .ref a_this_behind, .ref a_this_climber, .ref a_this_numbers, .ref a_this_asked, .int c_this_gone, .int c_this_met])), (a_this_task, .inr (4, [.ref a_this_task_low, .ref a_this_task_high, .ref a_this_task_right, .ref a_this_task_terms, .ref a_this_task_from, .ref a_this_task_to, .ref a_this_task_costs, .int c_this_task_columns, .int c_this_task_rows, .int c_this_task_aims, .int c_this_task_points]))] (fun (r : Int32) (u : Unit) => post r) (fun u => [(a_this, .inr (5, [.ref a_this_task, .ref a_this_front, .ref a_this_cover, .ref a_this_behind, .ref a_this_climber, .ref a_this_numbers, .ref a_this_asked, .int c_this_gone, .int c_this_met])), (a_this_task, .inr (4, [.ref a_this_task_low, .ref a_this_task_high, .ref a_this_task_right, .ref a_this_task_terms, .ref a_this_task_from, .ref a_this_task_to, .ref a_this_task_costs, .int c_this_task_columns, .int c_this_task_rows, .int c_this_task_aims, .int c_this_task_points]))]) := by
  refine met_i (ty := .int) (Or.inl rfl) (cc := cX6_left) (maxL := 1) (by decide) rfl (Nat.le_of_ble_eq_true rfl) ?_
  intro p e s m args below meth c A Q H locs ls K hG hl hret
  have hl : lv_has ls 1 [(0, .ref a_this)] := hl
  have hin_RX5 : ∀ w ∈ u_ws RX5 TX5 11, w ∈ wsX6_left := by decide +kernel
  have hin_RX6 : ∀ w ∈ u_ws RX6 TX6 9, w ∈ wsX6_left := by decide +kernel
  unfold wp_X6_left at hw
  refine lv_aload_n K.1 K.2.1 dX6_left_0 rfl (lv_at hl 0 rfl) ?_
  refine g_get (v := .ref a_this_task) K hG hin_RX6 0 rfl rfl 0 (by decide) (K.2.2.2.2.1 (.fieldLink RX6 10 "AimFronts" "task" "LAimFronts$Task;") (by decide +kernel)) rfl rfl dX6_left_1 ?_
  refine g_get (v := .int c_this_task_points) K hG hin_RX5 1 rfl rfl 10 (by decide) (K.2.2.2.2.1 (.fieldLink RX6 60 "AimFronts$Task" "points" "I") (by decide +kernel)) rfl rfl dX6_left_4 ?_
  refine lv_aload_n K.1 K.2.1 dX6_left_7 rfl (lv_at hl 0 rfl) ?_
  refine g_get (v := .int c_this_gone) K hG hin_RX6 0 rfl rfl 7 (by decide) (K.2.2.2.2.1 (.fieldLink RX6 109 "AimFronts" "gone" "I") (by decide +kernel)) rfl rfl dX6_left_8 ?_
  refine lv_isub K.1 K.2.1 dX6_left_11 ?_
  exact hret (c_this_task_points - c_this_gone) () H locs _ ls dX6_left_12 rfl hw hG
abbrev rm_X6_plans : Room := { frames := 0, cells := 0, slots := 0, locals := 0 }
set_option maxHeartbeats 4000000 in
set_option maxRecDepth 100000 in
theorem k_X6_plans (l : Launch) (dC : Nat → ClassId) (dI : Nat → Nat → Nat) (cI cJ cZ cG : ClassId) (sz : Nat) (a_this a_this_task a_this_front a_this_cover a_this_behind a_this_climber a_this_numbers a_this_asked : Nat) (c_this_gone : Int32) (c_this_met : Int32) (post : Int32 → Prop) (hw : wp_X6_plans c_this_met post) : MetI l yX6_plans wsX6_plans rm_X6_plans (dC, dI) cI cJ cZ cG [.ref a_this] sz [(a_this, .inr (5, [.ref a_this_task, .ref a_this_front, .ref a_this_cover, .ref a_this_behind, .ref a_this_climber, .ref a_this_numbers, .ref a_this_asked, .int c_this_gone, .int c_this_met]))] (fun (r : Int32) (u : Unit) => post r) (fun u => [(a_this, .inr (5, [.ref a_this_task, .ref a_this_front, .ref a_this_cover, .ref a_this_behind, .ref a_this_climber, .ref a_this_numbers, .ref a_this_asked, .int c_this_gone, .int c_this_met]))]) := by
  refine met_i (ty := .int) (Or.inl rfl) (cc := cX6_plans) (maxL := 1) (by decide) rfl (Nat.le_of_ble_eq_true rfl) ?_
  intro p e s m args below meth c A Q H locs ls K hG hl hret
  have hl : lv_has ls 1 [(0, .ref a_this)] := hl
  have hin_RX6 : ∀ w ∈ u_ws RX6 TX6 9, w ∈ wsX6_plans := by decide +kernel
  unfold wp_X6_plans at hw
  refine lv_aload_n K.1 K.2.1 dX6_plans_0 rfl (lv_at hl 0 rfl) ?_
  refine g_get (v := .int c_this_met) K hG hin_RX6 0 rfl rfl 8 (by decide) (K.2.2.2.2.1 (.fieldLink RX6 124 "AimFronts" "met" "I") (by decide +kernel)) rfl rfl dX6_plans_1 ?_
  exact hret c_this_met () H locs _ ls dX6_plans_4 rfl hw hG
abbrev rm_X4_number : Room := { frames := 1, cells := 0, slots := 0, locals := 20 }
set_option maxHeartbeats 4000000 in
set_option maxRecDepth 100000 in
theorem k_X4_number (l : Launch) (dC : Nat → ClassId) (dI : Nat → Nat → Nat) (cI cJ cZ cG : ClassId) (sz : Nat) (x0 : Int64) (x2 : Int32) (post : Int32 → Prop) (hw : wp_X4_number x0 x2 post) : MetI l yX4_number wsX4_number rm_X4_number (dC, dI) cI cJ cZ cG [.long x0, .int x2] sz [] (fun (r : Int32) (u : Unit) => post r) (fun u => []) := by
  refine met_i (ty := .int) (Or.inl rfl) (cc := cX4_number) (maxL := 3) (by decide) rfl (Nat.le_of_ble_eq_true rfl) ?_
  intro p e s m args below meth c A Q H locs ls K hG hl hret
  have hl : lv_has ls 3 [(0, .long x0), (2, .int x2)] := hl
  unfold wp_X4_number at hw
  refine lv_lload_n K.1 K.2.1 dX4_number_0 rfl (lv_at hl 0 rfl) ?_
  refine lv_iload_n K.1 K.2.1 dX4_number_1 rfl (lv_at hl 1 rfl) ?_
  refine g_ri K hG [] rfl (g_runS (As := [.int x2]) (rest := [.long x0]) K hG hl [] rfl rfl (k_X4_place l dC dI cI cJ cZ cG H.size x2 _ hw) (va_cwS 1 K.2.2.2.2.1 gX4_number_X4_place rfl rfl rfl (by decide +kernel) ⟨by decide, by decide⟩) rfl rfl (Nat.le_of_ble_eq_true rfl) ⟨Nat.zero_le _, Nat.zero_le _⟩ dX4_number_2) (fun r_2 H locs hw hG => ?_)
  refine lv_lushr K.1 K.2.1 dX4_number_5 rfl ?_
  refine lv_ldc2 (v := 65535) K.1 K.2.1 K.2.2.2.1 (K.2.2.2.2.1 (.constantLong RX4 13 (65535)) (by decide +kernel)) dX4_number_6 ?_
  refine lv_land K.1 K.2.1 dX4_number_9 ?_
  refine lv_l2i K.1 K.2.1 dX4_number_10 rfl ?_
  refine lv_sipush (v := 2048) K.1 K.2.1 dX4_number_11 (by decide) ?_
  refine lv_isub K.1 K.2.1 dX4_number_14 ?_
  exact hret (((((((x0).toUInt64 >>> ((r_2).toInt64.toUInt64 &&& Int64.toUInt64 63)).toInt64) &&& (65535 : Int64))).toInt32) - (2048 : Int32)) () H locs _ ls dX4_number_15 rfl hw hG
abbrev rm_X3_number : Room := { frames := 2, cells := 0, slots := 0, locals := 42 }
set_option maxHeartbeats 4000000 in
set_option maxRecDepth 100000 in
theorem k_X3_number (l : Launch) (dC : Nat → ClassId) (dI : Nat → Nat → Nat) (cI cJ cZ cG : ClassId) (sz : Nat) (a_this a_this_scores a_this_points a_this_counts a_this_ideals a_this_scales : Nat) (c_this_scores : Nat → Int64) (c_this_size : Int32) (x1 : Int32) (x2 : Int32) (post : Int32 → Prop) (hw : wp_X3_number c_this_scores x1 x2 post) : MetI l yX3_number wsX3_number rm_X3_number (dC, dI) cI cJ cZ cG [.ref a_this, .int x1, .int x2] sz [(a_this, .inr (3, [.ref a_this_scores, .ref a_this_points, .ref a_this_counts, .int c_this_size, .ref a_this_ideals, .ref a_this_scales])), (a_this_scores, .inl (cJ, 2000, .inr (.inl c_this_scores)))] (fun (r : Int32) (u : Unit) => post r) (fun u => [(a_this, .inr (3, [.ref a_this_scores, .ref a_this_points, .ref a_this_counts, .int c_this_size, .ref a_this_ideals, .ref a_this_scales])), (a_this_scores, .inl (cJ, 2000, .inr (.inl c_this_scores)))]) := by
  refine met_i (ty := .int) (Or.inl rfl) (cc := cX3_number) (maxL := 3) (by decide) rfl (Nat.le_of_ble_eq_true rfl) ?_
  intro p e s m args below meth c A Q H locs ls K hG hl hret
  have hl : lv_has ls 3 [(0, .ref a_this), (1, .int x1), (2, .int x2)] := hl
  have hin_RX3 : ∀ w ∈ u_ws RX3 TX3 6, w ∈ wsX3_number := by decide +kernel
  unfold wp_X3_number at hw
  refine lv_aload_n K.1 K.2.1 dX3_number_0 rfl (lv_at hl 0 rfl) ?_
  refine g_get (v := .ref a_this_scores) K hG hin_RX3 0 rfl rfl 0 (by decide) (K.2.2.2.2.1 (.fieldLink RX3 9 "AimFronts$Front" "scores" "[J") (by decide +kernel)) rfl rfl dX3_number_1 ?_
  refine lv_iload_n K.1 K.2.1 dX3_number_4 rfl (lv_at hl 1 rfl) ?_
  obtain ⟨h_5, hw⟩ := hw
  refine g_lald K hG 1 rfl h_5 dX3_number_5 ?_
  refine lv_iload_n K.1 K.2.1 dX3_number_6 rfl (lv_at hl 2 rfl) ?_
  refine g_ri K hG [] rfl (g_runS (As := [.long (c_this_scores (x1).toNatClampNeg), .int x2]) (rest := []) K hG hl [] rfl rfl (k_X4_number l dC dI cI cJ cZ cG H.size (c_this_scores (x1).toNatClampNeg) x2 _ hw) (va_cwS 2 K.2.2.2.2.1 gX3_number_X4_number rfl rfl rfl (by decide +kernel) ⟨by decide, by decide⟩) rfl rfl (Nat.le_of_ble_eq_true rfl) ⟨Nat.zero_le _, Nat.zero_le _⟩ dX3_number_7) (fun r_7 H locs hw hG => ?_)
  exact hret r_7 () H locs _ ls dX3_number_10 rfl hw hG
abbrev rm_X6_score : Room := { frames := 3, cells := 0, slots := 0, locals := 64 }
set_option maxHeartbeats 4000000 in
set_option maxRecDepth 100000 in
theorem k_X6_score (l : Launch) (dC : Nat → ClassId) (dI : Nat → Nat → Nat) (cI cJ cZ cG : ClassId) (sz : Nat) (a_this a_this_task a_this_front a_this_cover a_this_behind a_this_climber a_this_numbers a_this_asked a_this_front_scores a_this_front_points a_this_front_counts a_this_front_ideals a_this_front_scales a_this_task_low a_this_task_high a_this_task_right a_this_task_terms a_this_task_from a_this_task_to a_this_task_costs : Nat) (c_this_front_scores : Nat → Int64) (c_this_front_size : Int32) (c_this_gone : Int32) (c_this_met : Int32) (c_this_task_aims : Int32) (c_this_task_columns : Int32) (c_this_task_points : Int32) (c_this_task_rows : Int32) (x1 : Int32) (x2 : Int32) (post : Int32 → Prop) (hw : wp_X6_score c_this_front_scores c_this_front_size c_this_task_aims x1 x2 post) : MetI l yX6_score wsX6_score rm_X6_score (dC, dI) cI cJ cZ cG [.ref a_this, .int x1, .int x2] sz [(a_this, .inr (5, [.ref a_this_task, .ref a_this_front, .ref a_this_cover, .ref a_this_behind, .ref a_this_climber, .ref a_this_numbers, .ref a_this_asked, .int c_this_gone, .int c_this_met])), (a_this_front, .inr (3, [.ref a_this_front_scores, .ref a_this_front_points, .ref a_this_front_counts, .int c_this_front_size, .ref a_this_front_ideals, .ref a_this_front_scales])), (a_this_front_scores, .inl (cJ, 2000, .inr (.inl c_this_front_scores))), (a_this_task, .inr (4, [.ref a_this_task_low, .ref a_this_task_high, .ref a_this_task_right, .ref a_this_task_terms, .ref a_this_task_from, .ref a_this_task_to, .ref a_this_task_costs, .int c_this_task_columns, .int c_this_task_rows, .int c_this_task_aims, .int c_this_task_points]))] (fun (r : Int32) (u : Unit) => post r) (fun u => [(a_this, .inr (5, [.ref a_this_task, .ref a_this_front, .ref a_this_cover, .ref a_this_behind, .ref a_this_climber, .ref a_this_numbers, .ref a_this_asked, .int c_this_gone, .int c_this_met])), (a_this_front, .inr (3, [.ref a_this_front_scores, .ref a_this_front_points, .ref a_this_front_counts, .int c_this_front_size, .ref a_this_front_ideals, .ref a_this_front_scales])), (a_this_front_scores, .inl (cJ, 2000, .inr (.inl c_this_front_scores))), (a_this_task, .inr (4, [.ref a_this_task_low, .ref a_this_task_high, .ref a_this_task_right, .ref a_this_task_terms, .ref a_this_task_from, .ref a_this_task_to, .ref a_this_task_costs, .int c_this_task_columns, .int c_this_task_rows, .int c_this_task_aims, .int c_this_task_points]))]) := by
  refine met_i (ty := .int) (Or.inl rfl) (cc := cX6_score) (maxL := 3) (by decide) rfl (Nat.le_of_ble_eq_true rfl) ?_
  intro p e s m args below meth c A Q H locs ls K hG hl hret
  have hl : lv_has ls 3 [(0, .ref a_this), (1, .int x1), (2, .int x2)] := hl
  have hin_RX3 : ∀ w ∈ u_ws RX3 TX3 6, w ∈ wsX6_score := by decide +kernel
  have hin_RX5 : ∀ w ∈ u_ws RX5 TX5 11, w ∈ wsX6_score := by decide +kernel
  have hin_RX6 : ∀ w ∈ u_ws RX6 TX6 9, w ∈ wsX6_score := by decide +kernel
  unfold wp_X6_score at hw
  refine lv_iload_n K.1 K.2.1 dX6_score_0 rfl (lv_at hl 1 rfl) ?_
  refine lv_aload_n K.1 K.2.1 dX6_score_1 rfl (lv_at hl 0 rfl) ?_
  refine g_get (v := .ref a_this_front) K hG hin_RX6 0 rfl rfl 1 (by decide) (K.2.2.2.2.1 (.fieldLink RX6 19 "AimFronts" "front" "LAimFronts$Front;") (by decide +kernel)) rfl rfl dX6_score_2 ?_
  refine g_get (v := .int c_this_front_size) K hG hin_RX3 1 rfl rfl 3 (by decide) (K.2.2.2.2.1 (.fieldLink RX6 121 "AimFronts$Front" "size" "I") (by decide +kernel)) rfl rfl dX6_score_5 ?_
  refine g_ri K hG [] rfl (g_runS (As := [.int x1, .int c_this_front_size]) (rest := []) K hG hl [] rfl rfl (k_X6_among l dC dI cI cJ cZ cG H.size x1 c_this_front_size _ hw) (va_cwS 2 K.2.2.2.2.1 gX6_score_X6_among rfl rfl rfl (by decide +kernel) ⟨by decide, by decide⟩) rfl rfl (Nat.le_of_ble_eq_true rfl) ⟨Nat.zero_le _, Nat.zero_le _⟩ dX6_score_8) (fun r_8 H locs hw hG => ?_)
  refine lv_if_eq (tgt := 28) K.1 K.2.1 dX6_score_11 (by decide) (fun q_11 => ?_) (fun q_11 => ?_)
  · have hw := hw.1 q_11
    refine lv_ldc (v := -1000001) K.1 K.2.1 K.2.2.2.1 (K.2.2.2.2.1 (.constant RX6 55 (-1000001)) (by decide +kernel)) dX6_score_28 ?_
    exact hret (-1000001 : Int32) () H locs _ ls dX6_score_30 rfl hw hG
  · have hw := hw.2 q_11
    refine lv_iload_n K.1 K.2.1 dX6_score_14 rfl (lv_at hl 2 rfl) ?_
    refine lv_aload_n K.1 K.2.1 dX6_score_15 rfl (lv_at hl 0 rfl) ?_
    refine g_get (v := .ref a_this_task) K hG hin_RX6 0 rfl rfl 0 (by decide) (K.2.2.2.2.1 (.fieldLink RX6 10 "AimFronts" "task" "LAimFronts$Task;") (by decide +kernel)) rfl rfl dX6_score_16 ?_
    refine g_get (v := .int c_this_task_aims) K hG hin_RX5 3 rfl rfl 9 (by decide) (K.2.2.2.2.1 (.fieldLink RX6 85 "AimFronts$Task" "aims" "I") (by decide +kernel)) rfl rfl dX6_score_19 ?_
    refine g_ri K hG [] rfl (g_runS (As := [.int x2, .int c_this_task_aims]) (rest := []) K hG hl [] rfl rfl (k_X6_among l dC dI cI cJ cZ cG H.size x2 c_this_task_aims _ hw) (va_cwS 2 K.2.2.2.2.1 gX6_score_X6_among rfl rfl rfl (by decide +kernel) ⟨by decide, by decide⟩) rfl rfl (Nat.le_of_ble_eq_true rfl) ⟨Nat.zero_le _, Nat.zero_le _⟩ dX6_score_22) (fun r_22 H locs hw hG => ?_)
    refine lv_if_ne (tgt := 31) K.1 K.2.1 dX6_score_25 (by decide) (fun q_25 => ?_) (fun q_25 => ?_)
    · have hw := hw.2 q_25
      refine lv_aload_n K.1 K.2.1 dX6_score_31 rfl (lv_at hl 0 rfl) ?_
      refine g_get (v := .ref a_this_front) K hG hin_RX6 0 rfl rfl 1 (by decide) (K.2.2.2.2.1 (.fieldLink RX6 19 "AimFronts" "front" "LAimFronts$Front;") (by decide +kernel)) rfl rfl dX6_score_32 ?_
      refine lv_iload_n K.1 K.2.1 dX6_score_35 rfl (lv_at hl 1 rfl) ?_
      refine lv_iload_n K.1 K.2.1 dX6_score_36 rfl (lv_at hl 2 rfl) ?_
      refine g_ri K hG [1, 2] rfl (g_runV (As := [.int x1, .int x2]) (rest := []) K hG hl [1, 2] rfl rfl 1 rfl rfl (k_X3_number l dC dI cI cJ cZ cG H.size a_this_front a_this_front_scores a_this_front_points a_this_front_counts a_this_front_ideals a_this_front_scales c_this_front_scores c_this_front_size x1 x2 _ hw) (cwV 2 K.2.2.2.2.1 gX6_score_X3_number rfl rfl rfl (by decide +kernel) ⟨by decide, by decide⟩) rfl rfl (Nat.le_of_ble_eq_true rfl) ⟨Nat.zero_le _, Nat.zero_le _⟩ dX6_score_37) (fun r_37 H locs hw hG => ?_)
      exact hret r_37 () H locs _ ls dX6_score_40 rfl hw hG
    · have hw := hw.1 q_25
      refine lv_ldc (v := -1000001) K.1 K.2.1 K.2.2.2.1 (K.2.2.2.2.1 (.constant RX6 55 (-1000001)) (by decide +kernel)) dX6_score_28 ?_
      exact hret (-1000001 : Int32) () H locs _ ls dX6_score_30 rfl hw hG
abbrev rm_X6_plan : Room := { frames := 2, cells := 0, slots := 0, locals := 49 }
set_option maxHeartbeats 4000000 in
set_option maxRecDepth 100000 in
theorem k_X6_plan (l : Launch) (dC : Nat → ClassId) (dI : Nat → Nat → Nat) (cI cJ cZ cG : ClassId) (sz : Nat) (a_this a_this_task a_this_front a_this_cover a_this_behind a_this_climber a_this_numbers a_this_asked a_this_front_scores a_this_front_points a_this_front_counts a_this_front_ideals a_this_front_scales a_this_task_low a_this_task_high a_this_task_right a_this_task_terms a_this_task_from a_this_task_to a_this_task_costs : Nat) (c_this_front_points : Nat → Int32) (c_this_front_size : Int32) (c_this_gone : Int32) (c_this_met : Int32) (c_this_numbers : Nat → Int32) (c_this_task_aims : Int32) (c_this_task_columns : Int32) (c_this_task_high : Nat → Int32) (c_this_task_low : Nat → Int32) (c_this_task_points : Int32) (c_this_task_rows : Int32) (x1 : Int32) (x2 : Int32) (post : Int32 → (Nat → Int32) → Prop) (hw : wp_X6_plan c_this_front_points c_this_front_size c_this_numbers c_this_task_columns c_this_task_high c_this_task_low x1 x2 post) : MetI l yX6_plan wsX6_plan rm_X6_plan (dC, dI) cI cJ cZ cG [.ref a_this, .int x1, .int x2] sz [(a_this, .inr (5, [.ref a_this_task, .ref a_this_front, .ref a_this_cover, .ref a_this_behind, .ref a_this_climber, .ref a_this_numbers, .ref a_this_asked, .int c_this_gone, .int c_this_met])), (a_this_front, .inr (3, [.ref a_this_front_scores, .ref a_this_front_points, .ref a_this_front_counts, .int c_this_front_size, .ref a_this_front_ideals, .ref a_this_front_scales])), (a_this_front_points, .inl (cI, 2000, .inl c_this_front_points)), (a_this_numbers, .inl (cI, 8, .inl c_this_numbers)), (a_this_task, .inr (4, [.ref a_this_task_low, .ref a_this_task_high, .ref a_this_task_right, .ref a_this_task_terms, .ref a_this_task_from, .ref a_this_task_to, .ref a_this_task_costs, .int c_this_task_columns, .int c_this_task_rows, .int c_this_task_aims, .int c_this_task_points])), (a_this_task_high, .inl (cI, 8, .inl c_this_task_high)), (a_this_task_low, .inl (cI, 8, .inl c_this_task_low))] (fun (r : Int32) (u : (Nat → Int32)) => post r u) (fun u => [(a_this, .inr (5, [.ref a_this_task, .ref a_this_front, .ref a_this_cover, .ref a_this_behind, .ref a_this_climber, .ref a_this_numbers, .ref a_this_asked, .int c_this_gone, .int c_this_met])), (a_this_front, .inr (3, [.ref a_this_front_scores, .ref a_this_front_points, .ref a_this_front_counts, .int c_this_front_size, .ref a_this_front_ideals, .ref a_this_front_scales])), (a_this_front_points, .inl (cI, 2000, .inl c_this_front_points)), (a_this_numbers, .inl (cI, 8, .inl u)), (a_this_task, .inr (4, [.ref a_this_task_low, .ref a_this_task_high, .ref a_this_task_right, .ref a_this_task_terms, .ref a_this_task_from, .ref a_this_task_to, .ref a_this_task_costs, .int c_this_task_columns, .int c_this_task_rows, .int c_this_task_aims, .int c_this_task_points])), (a_this_task_high, .inl (cI, 8, .inl c_this_task_high)), (a_this_task_low, .inl (cI, 8, .inl c_this_task_low))]) := by
  refine met_i (ty := .int) (Or.inl rfl) (cc := cX6_plan) (maxL := 3) (by decide) rfl (Nat.le_of_ble_eq_true rfl) ?_
  intro p e s m args below meth c A Q H locs ls K hG hl hret
  have hl : lv_has ls 3 [(0, .ref a_this), (1, .int x1), (2, .int x2)] := hl
  have hin_RX3 : ∀ w ∈ u_ws RX3 TX3 6, w ∈ wsX6_plan := by decide +kernel
  have hin_RX5 : ∀ w ∈ u_ws RX5 TX5 11, w ∈ wsX6_plan := by decide +kernel
  have hin_RX6 : ∀ w ∈ u_ws RX6 TX6 9, w ∈ wsX6_plan := by decide +kernel
  unfold wp_X6_plan at hw
  refine lv_iload_n K.1 K.2.1 dX6_plan_0 rfl (lv_at hl 1 rfl) ?_
  refine lv_aload_n K.1 K.2.1 dX6_plan_1 rfl (lv_at hl 0 rfl) ?_
  refine g_get (v := .ref a_this_front) K hG hin_RX6 0 rfl rfl 1 (by decide) (K.2.2.2.2.1 (.fieldLink RX6 19 "AimFronts" "front" "LAimFronts$Front;") (by decide +kernel)) rfl rfl dX6_plan_2 ?_
  refine g_get (v := .int c_this_front_size) K hG hin_RX3 1 rfl rfl 3 (by decide) (K.2.2.2.2.1 (.fieldLink RX6 121 "AimFronts$Front" "size" "I") (by decide +kernel)) rfl rfl dX6_plan_5 ?_
  refine g_ri K hG [] rfl (g_runS (As := [.int x1, .int c_this_front_size]) (rest := []) K hG hl [] rfl rfl (k_X6_among l dC dI cI cJ cZ cG H.size x1 c_this_front_size _ hw) (va_cwS 2 K.2.2.2.2.1 gX6_plan_X6_among rfl rfl rfl (by decide +kernel) ⟨by decide, by decide⟩) rfl rfl (Nat.le_of_ble_eq_true rfl) ⟨Nat.zero_le _, Nat.zero_le _⟩ dX6_plan_8) (fun r_8 H locs hw hG => ?_)
  refine lv_if_eq (tgt := 28) K.1 K.2.1 dX6_plan_11 (by decide) (fun q_11 => ?_) (fun q_11 => ?_)
  · have hw := hw.1 q_11
    refine lv_ldc (v := -1000001) K.1 K.2.1 K.2.2.2.1 (K.2.2.2.2.1 (.constant RX6 55 (-1000001)) (by decide +kernel)) dX6_plan_28 ?_
    exact hret (-1000001 : Int32) c_this_numbers H locs _ ls dX6_plan_30 rfl hw hG
  · have hw := hw.2 q_11
    refine lv_iload_n K.1 K.2.1 dX6_plan_14 rfl (lv_at hl 2 rfl) ?_
    refine lv_aload_n K.1 K.2.1 dX6_plan_15 rfl (lv_at hl 0 rfl) ?_
    refine g_get (v := .ref a_this_task) K hG hin_RX6 0 rfl rfl 0 (by decide) (K.2.2.2.2.1 (.fieldLink RX6 10 "AimFronts" "task" "LAimFronts$Task;") (by decide +kernel)) rfl rfl dX6_plan_16 ?_
    refine g_get (v := .int c_this_task_columns) K hG hin_RX5 4 rfl rfl 7 (by decide) (K.2.2.2.2.1 (.fieldLink RX6 56 "AimFronts$Task" "columns" "I") (by decide +kernel)) rfl rfl dX6_plan_19 ?_
    refine g_ri K hG [] rfl (g_runS (As := [.int x2, .int c_this_task_columns]) (rest := []) K hG hl [] rfl rfl (k_X6_among l dC dI cI cJ cZ cG H.size x2 c_this_task_columns _ hw) (va_cwS 2 K.2.2.2.2.1 gX6_plan_X6_among rfl rfl rfl (by decide +kernel) ⟨by decide, by decide⟩) rfl rfl (Nat.le_of_ble_eq_true rfl) ⟨Nat.zero_le _, Nat.zero_le _⟩ dX6_plan_22) (fun r_22 H locs hw hG => ?_)
    refine lv_if_ne (tgt := 31) K.1 K.2.1 dX6_plan_25 (by decide) (fun q_25 => ?_) (fun q_25 => ?_)
    · have hw := hw.2 q_25
      refine lv_aload_n K.1 K.2.1 dX6_plan_31 rfl (lv_at hl 0 rfl) ?_
      refine g_get (v := .ref a_this_task) K hG hin_RX6 0 rfl rfl 0 (by decide) (K.2.2.2.2.1 (.fieldLink RX6 10 "AimFronts" "task" "LAimFronts$Task;") (by decide +kernel)) rfl rfl dX6_plan_32 ?_
      refine lv_aload_n K.1 K.2.1 dX6_plan_35 rfl (lv_at hl 0 rfl) ?_
      refine g_get (v := .ref a_this_front) K hG hin_RX6 0 rfl rfl 1 (by decide) (K.2.2.2.2.1 (.fieldLink RX6 19 "AimFronts" "front" "LAimFronts$Front;") (by decide +kernel)) rfl rfl dX6_plan_36 ?_
      refine g_get (v := .ref a_this_front_points) K hG hin_RX3 1 rfl rfl 1 (by decide) (K.2.2.2.2.1 (.fieldLink RX6 130 "AimFronts$Front" "points" "[I") (by decide +kernel)) rfl rfl dX6_plan_39 ?_
      refine lv_iload_n K.1 K.2.1 dX6_plan_42 rfl (lv_at hl 1 rfl) ?_
      obtain ⟨h_43, hw⟩ := hw
      refine g_iald K hG 2 rfl h_43 dX6_plan_43 ?_
      refine lv_aload_n K.1 K.2.1 dX6_plan_44 rfl (lv_at hl 0 rfl) ?_
      refine g_get (v := .ref a_this_numbers) K hG hin_RX6 0 rfl rfl 5 (by decide) (K.2.2.2.2.1 (.fieldLink RX6 44 "AimFronts" "numbers" "[I") (by decide +kernel)) rfl rfl dX6_plan_45 ?_
      refine g_nv (w2 := (fun u => [(a_this, .inr (5, [.ref a_this_task, .ref a_this_front, .ref a_this_cover, .ref a_this_behind, .ref a_this_climber, .ref a_this_numbers, .ref a_this_asked, .int c_this_gone, .int c_this_met])), (a_this_front, .inr (3, [.ref a_this_front_scores, .ref a_this_front_points, .ref a_this_front_counts, .int c_this_front_size, .ref a_this_front_ideals, .ref a_this_front_scales])), (a_this_front_points, .inl (cI, 2000, .inl c_this_front_points)), (a_this_numbers, .inl (cI, 8, .inl u)), (a_this_task, .inr (4, [.ref a_this_task_low, .ref a_this_task_high, .ref a_this_task_right, .ref a_this_task_terms, .ref a_this_task_from, .ref a_this_task_to, .ref a_this_task_costs, .int c_this_task_columns, .int c_this_task_rows, .int c_this_task_aims, .int c_this_task_points])), (a_this_task_high, .inl (cI, 8, .inl c_this_task_high)), (a_this_task_low, .inl (cI, 8, .inl c_this_task_low))])) (wr := [(a_this, .inr (5, [.ref a_this_task, .ref a_this_front, .ref a_this_cover, .ref a_this_behind, .ref a_this_climber, .ref a_this_numbers, .ref a_this_asked, .int c_this_gone, .int c_this_met])), (a_this_front, .inr (3, [.ref a_this_front_scores, .ref a_this_front_points, .ref a_this_front_counts, .int c_this_front_size, .ref a_this_front_ideals, .ref a_this_front_scales])), (a_this_front_points, .inl (cI, 2000, .inl c_this_front_points))]) K hG [3, 4, 5, 6] [0, 1, 2] 7 rfl (g_runV (As := [.int (c_this_front_points (x1).toNatClampNeg), .ref a_this_numbers]) (rest := []) K hG hl [3, 4, 5, 6] rfl rfl 4 rfl rfl (k_X5_fill l dC dI cI cJ cZ cG H.size a_this_numbers a_this_task a_this_task_low a_this_task_high a_this_task_right a_this_task_terms a_this_task_from a_this_task_to a_this_task_costs c_this_numbers c_this_task_aims c_this_task_columns c_this_task_high c_this_task_low c_this_task_points c_this_task_rows (c_this_front_points (x1).toNatClampNeg) _ hw) (cwV 2 K.2.2.2.2.1 gX6_plan_X5_fill rfl rfl rfl (by decide +kernel) ⟨by decide, by decide⟩) rfl rfl (Nat.le_of_ble_eq_true rfl) ⟨Nat.zero_le _, Nat.zero_le _⟩ dX6_plan_48) (fun _ => rfl) (fun _ => rfl) rfl (fun _ => rfl) (fun _ => rfl) (by decide) (by decide) (by decide) (fun u H locs hw hG => ?_)
      obtain ⟨c_this_numbers_48, rfl⟩ : ∃ z, z = u := ⟨_, rfl⟩
      have hG : HW (dC, dI) A s.heap [(a_this, .inr (5, [.ref a_this_task, .ref a_this_front, .ref a_this_cover, .ref a_this_behind, .ref a_this_climber, .ref a_this_numbers, .ref a_this_asked, .int c_this_gone, .int c_this_met])), (a_this_front, .inr (3, [.ref a_this_front_scores, .ref a_this_front_points, .ref a_this_front_counts, .int c_this_front_size, .ref a_this_front_ideals, .ref a_this_front_scales])), (a_this_front_points, .inl (cI, 2000, .inl c_this_front_points)), (a_this_numbers, .inl (cI, 8, .inl c_this_numbers_48)), (a_this_task, .inr (4, [.ref a_this_task_low, .ref a_this_task_high, .ref a_this_task_right, .ref a_this_task_terms, .ref a_this_task_from, .ref a_this_task_to, .ref a_this_task_costs, .int c_this_task_columns, .int c_this_task_rows, .int c_this_task_aims, .int c_this_task_points])), (a_this_task_high, .inl (cI, 8, .inl c_this_task_high)), (a_this_task_low, .inl (cI, 8, .inl c_this_task_low))] H locs := hG
      refine lv_aload_n K.1 K.2.1 dX6_plan_51 rfl (lv_at hl 0 rfl) ?_
      refine g_get (v := .ref a_this_numbers) K hG hin_RX6 0 rfl rfl 5 (by decide) (K.2.2.2.2.1 (.fieldLink RX6 44 "AimFronts" "numbers" "[I") (by decide +kernel)) rfl rfl dX6_plan_52 ?_
      refine lv_iload_n K.1 K.2.1 dX6_plan_55 rfl (lv_at hl 2 rfl) ?_
      obtain ⟨h_56, hw⟩ := hw
      refine g_iald K hG 3 rfl h_56 dX6_plan_56 ?_
      exact hret (c_this_numbers_48 (x2).toNatClampNeg) c_this_numbers_48 H locs _ ls dX6_plan_57 rfl hw hG
    · have hw := hw.1 q_25
      refine lv_ldc (v := -1000001) K.1 K.2.1 K.2.2.2.1 (K.2.2.2.2.1 (.constant RX6 55 (-1000001)) (by decide +kernel)) dX6_plan_28 ?_
      exact hret (-1000001 : Int32) c_this_numbers H locs _ ls dX6_plan_30 rfl hw hG
abbrev rm_X6_ties : Room := { frames := 1, cells := 0, slots := 0, locals := 21 }
set_option maxHeartbeats 4000000 in
set_option maxRecDepth 100000 in
theorem k_X6_ties (l : Launch) (dC : Nat → ClassId) (dI : Nat → Nat → Nat) (cI cJ cZ cG : ClassId) (sz : Nat) (a_this a_this_task a_this_front a_this_cover a_this_behind a_this_climber a_this_numbers a_this_asked a_this_front_scores a_this_front_points a_this_front_counts a_this_front_ideals a_this_front_scales : Nat) (c_this_front_counts : Nat → Int32) (c_this_front_size : Int32) (c_this_gone : Int32) (c_this_met : Int32) (x1 : Int32) (post : Int32 → Prop) (hw : wp_X6_ties c_this_front_counts c_this_front_size x1 post) : MetI l yX6_ties wsX6_ties rm_X6_ties (dC, dI) cI cJ cZ cG [.ref a_this, .int x1] sz [(a_this, .inr (5, [.ref a_this_task, .ref a_this_front, .ref a_this_cover, .ref a_this_behind, .ref a_this_climber, .ref a_this_numbers, .ref a_this_asked, .int c_this_gone, .int c_this_met])), (a_this_front, .inr (3, [.ref a_this_front_scores, .ref a_this_front_points, .ref a_this_front_counts, .int c_this_front_size, .ref a_this_front_ideals, .ref a_this_front_scales])), (a_this_front_counts, .inl (cI, 2000, .inl c_this_front_counts))] (fun (r : Int32) (u : Unit) => post r) (fun u => [(a_this, .inr (5, [.ref a_this_task, .ref a_this_front, .ref a_this_cover, .ref a_this_behind, .ref a_this_climber, .ref a_this_numbers, .ref a_this_asked, .int c_this_gone, .int c_this_met])), (a_this_front, .inr (3, [.ref a_this_front_scores, .ref a_this_front_points, .ref a_this_front_counts, .int c_this_front_size, .ref a_this_front_ideals, .ref a_this_front_scales])), (a_this_front_counts, .inl (cI, 2000, .inl c_this_front_counts))]) := by
  refine met_i (ty := .int) (Or.inl rfl) (cc := cX6_ties) (maxL := 2) (by decide) rfl (Nat.le_of_ble_eq_true rfl) ?_
  intro p e s m args below meth c A Q H locs ls K hG hl hret
  have hl : lv_has ls 2 [(0, .ref a_this), (1, .int x1)] := hl
  have hin_RX3 : ∀ w ∈ u_ws RX3 TX3 6, w ∈ wsX6_ties := by decide +kernel
  have hin_RX6 : ∀ w ∈ u_ws RX6 TX6 9, w ∈ wsX6_ties := by decide +kernel
  unfold wp_X6_ties at hw
  refine lv_iload_n K.1 K.2.1 dX6_ties_0 rfl (lv_at hl 1 rfl) ?_
  refine lv_aload_n K.1 K.2.1 dX6_ties_1 rfl (lv_at hl 0 rfl) ?_
  refine g_get (v := .ref a_this_front) K hG hin_RX6 0 rfl rfl 1 (by decide) (K.2.2.2.2.1 (.fieldLink RX6 19 "AimFronts" "front" "LAimFronts$Front;") (by decide +kernel)) rfl rfl dX6_ties_2 ?_
  refine g_get (v := .int c_this_front_size) K hG hin_RX3 1 rfl rfl 3 (by decide) (K.2.2.2.2.1 (.fieldLink RX6 121 "AimFronts$Front" "size" "I") (by decide +kernel)) rfl rfl dX6_ties_5 ?_
  refine g_ri K hG [] rfl (g_runS (As := [.int x1, .int c_this_front_size]) (rest := []) K hG hl [] rfl rfl (k_X6_among l dC dI cI cJ cZ cG H.size x1 c_this_front_size _ hw) (va_cwS 2 K.2.2.2.2.1 gX6_ties_X6_among rfl rfl rfl (by decide +kernel) ⟨by decide, by decide⟩) rfl rfl (Nat.le_of_ble_eq_true rfl) ⟨Nat.zero_le _, Nat.zero_le _⟩ dX6_ties_8) (fun r_8 H locs hw hG => ?_)
  refine lv_if_eq (tgt := 26) K.1 K.2.1 dX6_ties_11 (by decide) (fun q_11 => ?_) (fun q_11 => ?_)
  · have hw := hw.1 q_11
    refine lv_ldc (v := -1000001) K.1 K.2.1 K.2.2.2.1 (K.2.2.2.2.1 (.constant RX6 55 (-1000001)) (by decide +kernel)) dX6_ties_26 ?_
    exact hret (-1000001 : Int32) () H locs _ ls dX6_ties_28 rfl hw hG
  · have hw := hw.2 q_11
    refine lv_aload_n K.1 K.2.1 dX6_ties_14 rfl (lv_at hl 0 rfl) ?_
    refine g_get (v := .ref a_this_front) K hG hin_RX6 0 rfl rfl 1 (by decide) (K.2.2.2.2.1 (.fieldLink RX6 19 "AimFronts" "front" "LAimFronts$Front;") (by decide +kernel)) rfl rfl dX6_ties_15 ?_
    refine g_get (v := .ref a_this_front_counts) K hG hin_RX3 1 rfl rfl 2 (by decide) (K.2.2.2.2.1 (.fieldLink RX6 136 "AimFronts$Front" "counts" "[I") (by decide +kernel)) rfl rfl dX6_ties_18 ?_
    refine lv_iload_n K.1 K.2.1 dX6_ties_21 rfl (lv_at hl 1 rfl) ?_
    obtain ⟨h_22, hw⟩ := hw
    refine g_iald K hG 2 rfl h_22 dX6_ties_22 ?_
    refine lv_goto (tgt := 28) K.1 K.2.1 dX6_ties_23 (by decide) ?_
    exact hret (c_this_front_counts (x1).toNatClampNeg) () H locs _ ls dX6_ties_28 rfl hw hG
abbrev rm_X3_least : Room := { frames := 3, cells := 0, slots := 0, locals := 64 }
set_option maxHeartbeats 4000000 in
set_option maxRecDepth 100000 in
theorem k_X3_least (l : Launch) (dC : Nat → ClassId) (dI : Nat → Nat → Nat) (cI cJ cZ cG : ClassId) (sz : Nat) (a_this a_this_scores a_this_points a_this_counts a_this_ideals a_this_scales : Nat) (c_this_scores : Nat → Int64) (c_this_size : Int32) (x1 : Int32) (post : Int32 → Prop) (hw : wp_X3_least c_this_scores c_this_size x1 post) : MetI l yX3_least wsX3_least rm_X3_least (dC, dI) cI cJ cZ cG [.ref a_this, .int x1] sz [(a_this, .inr (3, [.ref a_this_scores, .ref a_this_points, .ref a_this_counts, .int c_this_size, .ref a_this_ideals, .ref a_this_scales])), (a_this_scores, .inl (cJ, 2000, .inr (.inl c_this_scores)))] (fun (r : Int32) (u : Unit) => post r) (fun u => [(a_this, .inr (3, [.ref a_this_scores, .ref a_this_points, .ref a_this_counts, .int c_this_size, .ref a_this_ideals, .ref a_this_scales])), (a_this_scores, .inl (cJ, 2000, .inr (.inl c_this_scores)))]) := by
  refine met_i (ty := .int) (Or.inl rfl) (cc := cX3_least) (maxL := 4) (by decide) rfl (Nat.le_of_ble_eq_true rfl) ?_
  intro p e s m args below meth c A Q H locs ls K hG hl hret
  have hl : lv_has ls 4 [(0, .ref a_this), (1, .int x1)] := hl
  have hin_RX3 : ∀ w ∈ u_ws RX3 TX3 6, w ∈ wsX3_least := by decide +kernel
  unfold wp_X3_least at hw
  refine lv_sipush (v := 2000) K.1 K.2.1 dX3_least_0 (by decide) ?_
  refine lv_istore_n (lv' := [(2, .int (2000 : Int32)), (0, .ref a_this), (1, .int x1)]) K.1 K.2.1 dX3_least_3 rfl hl (by decide) rfl (fun ls hl => ?_)
  refine lv_iconst (v := 0) K.1 K.2.1 dX3_least_4 (by decide) ?_
  refine lv_istore_n (lv' := [(3, .int (0 : Int32)), (2, .int (2000 : Int32)), (0, .ref a_this), (1, .int x1)]) K.1 K.2.1 dX3_least_5 rfl hl (by decide) rfl (fun ls hl => ?_)
  obtain ⟨kx_6, hkx_6, n_6, hw⟩ := Lx1_2_abs hw
  have hX_6 : ∀ (v2_6e : Int32) (H : Heap) (locs : List Loc) (ls : Array Slot), kx_6 v2_6e → HW (dC, dI) A s.heap [(a_this, .inr (3, [.ref a_this_scores, .ref a_this_points, .ref a_this_counts, .int c_this_size, .ref a_this_ideals, .ref a_this_scales])), (a_this_scores, .inl (cJ, 2000, .inr (.inl c_this_scores)))] H locs → lv_has ls 4 [(2, .int v2_6e)] → W p l e rm_X3_least s m args below meth c H locs 0 0 Q (F0 m 31 ls []) := by
    intro v2_6e H locs ls hw hG hl
    have hw := hkx_6 _ hw
    refine lv_iload_n K.1 K.2.1 dX3_least_31 rfl (lv_at hl 0 rfl) ?_
    exact hret v2_6e () H locs _ ls dX3_least_32 rfl hw hG
  have hL_6 : ∀ (n : Nat), ∀ (v2_6 : Int32) (v3_6 : Int32) (H : Heap) (locs : List Loc) (ls : Array Slot), Lp2 (b_X3_least_6 c_this_size c_this_scores x1 kx_6) n v2_6 v3_6 → HW (dC, dI) A s.heap [(a_this, .inr (3, [.ref a_this_scores, .ref a_this_points, .ref a_this_counts, .int c_this_size, .ref a_this_ideals, .ref a_this_scales])), (a_this_scores, .inl (cJ, 2000, .inr (.inl c_this_scores)))] H locs → lv_has ls 4 [(0, .ref a_this), (1, .int x1), (2, .int v2_6), (3, .int v3_6)] → W p l e rm_X3_least s m args below meth c H locs 0 0 Q (F0 m 6 ls []) := by
    intro n
    induction n with
    | zero => intro v2_6 v3_6 H locs ls hw; exact False.elim hw
    | succ n ih_6 =>
      intro v2_6 v3_6 H locs ls hw hG hl
      obtain ⟨w_6, hw_6, hw⟩ : ∃ w' : Int32 → Int32 → Prop, (∀ v2_6 v3_6, w' v2_6 v3_6 → Lp2 (b_X3_least_6 c_this_size c_this_scores x1 kx_6) n v2_6 v3_6) ∧ b_X3_least_6 c_this_size c_this_scores x1 kx_6 w' v2_6 v3_6 := ⟨_, fun _ _ h => h, hw⟩
      replace ih_6 : ∀ (v2_6 : Int32) (v3_6 : Int32) (H : Heap) (locs : List Loc) (ls : Array Slot), w_6 v2_6 v3_6 → HW (dC, dI) A s.heap [(a_this, .inr (3, [.ref a_this_scores, .ref a_this_points, .ref a_this_counts, .int c_this_size, .ref a_this_ideals, .ref a_this_scales])), (a_this_scores, .inl (cJ, 2000, .inr (.inl c_this_scores)))] H locs → lv_has ls 4 [(0, .ref a_this), (1, .int x1), (2, .int v2_6), (3, .int v3_6)] → W p l e rm_X3_least s m args below meth c H locs 0 0 Q (F0 m 6 ls []) := fun v2_6 v3_6 H locs ls h => ih_6 v2_6 v3_6 H locs ls (hw_6 _ _ h)
      unfold b_X3_least_6 at hw
      refine lv_iload_n K.1 K.2.1 dX3_least_6 rfl (lv_at hl 3 rfl) ?_
      refine lv_aload_n K.1 K.2.1 dX3_least_7 rfl (lv_at hl 0 rfl) ?_
      refine g_get (v := .int c_this_size) K hG hin_RX3 0 rfl rfl 3 (by decide) (K.2.2.2.2.1 (.fieldLink RX3 32 "AimFronts$Front" "size" "I") (by decide +kernel)) rfl rfl dX3_least_8 ?_
      refine lv_icmp_ge (tgt := 31) K.1 K.2.1 dX3_least_11 (by decide) (fun q_11 => ?_) (fun q_11 => ?_)
      · have hw := hw.1 q_11
        exact hX_6 v2_6 H locs ls hw hG (lv_sub hl [2] rfl)
      · have hw := hw.2 q_11
        refine lv_iload_n K.1 K.2.1 dX3_least_14 rfl (lv_at hl 2 rfl) ?_
        refine lv_aload_n K.1 K.2.1 dX3_least_15 rfl (lv_at hl 0 rfl) ?_
        refine lv_iload_n K.1 K.2.1 dX3_least_16 rfl (lv_at hl 3 rfl) ?_
        refine lv_iload_n K.1 K.2.1 dX3_least_17 rfl (lv_at hl 1 rfl) ?_
        refine g_ri K hG [0, 1] rfl (g_runV (As := [.int v3_6, .int x1]) (rest := [.int v2_6]) K hG hl [0, 1] rfl rfl 0 rfl rfl (k_X3_number l dC dI cI cJ cZ cG H.size a_this a_this_scores a_this_points a_this_counts a_this_ideals a_this_scales c_this_scores c_this_size v3_6 x1 _ hw) (cwV 2 K.2.2.2.2.1 gX3_least_X3_number rfl rfl rfl (by decide +kernel) ⟨by decide, by decide⟩) rfl rfl (Nat.le_of_ble_eq_true rfl) ⟨Nat.zero_le _, Nat.zero_le _⟩ dX3_least_18) (fun r_18 H locs hw hG => ?_)
        refine va_mmin K.1 K.2.1 (K.2.2.1.trans hl.1.symm) K.2.2.2.1 (K.2.2.2.2.1 (.methodLink RX3 71 Lib.Math.min.name) (by decide +kernel)) (K.2.2.2.2.1 (.static Lib.Math.min.name) (by decide +kernel)) (K.2.2.2.2.1 (.initialized "java/lang/Math") (by decide +kernel)) (K.2.2.2.2.1 (.code Lib.Math.min.name Lib.Math.min.code 2 (some .int)) (by decide +kernel)) (Nat.le_of_ble_eq_true rfl) (Nat.le_of_ble_eq_true rfl) (Nat.zero_le _) (Nat.zero_le _) dX3_least_21 ?_
        refine lv_istore_n (lv' := [(2, .int (if r_18 < v2_6 then r_18 else v2_6)), (0, .ref a_this), (1, .int x1), (3, .int v3_6)]) K.1 K.2.1 dX3_least_24 rfl hl (by decide) rfl (fun ls hl => ?_)
        refine lv_iinc (v := (v3_6 + (1 : Int32))) (lv' := [(3, .int (v3_6 + (1 : Int32))), (2, .int (if r_18 < v2_6 then r_18 else v2_6)), (0, .ref a_this), (1, .int x1)]) K.1 K.2.1 dX3_least_25 hl (k := 3) rfl rfl (by decide) rfl (fun ls hl => ?_)
        refine lv_goto (tgt := 6) K.1 K.2.1 dX3_least_28 (by decide) ?_
        exact ih_6 (if r_18 < v2_6 then r_18 else v2_6) (v3_6 + (1 : Int32)) H locs ls hw hG (lv_sub hl [2, 3, 1, 0] rfl)
  exact hL_6 n_6 (2000 : Int32) (0 : Int32) H locs ls hw hG (lv_sub hl [2, 3, 1, 0] rfl)
abbrev rm_X6_ideal : Room := { frames := 4, cells := 0, slots := 0, locals := 87 }
set_option maxHeartbeats 4000000 in
set_option maxRecDepth 100000 in
theorem k_X6_ideal (l : Launch) (dC : Nat → ClassId) (dI : Nat → Nat → Nat) (cI cJ cZ cG : ClassId) (sz : Nat) (a_this a_this_task a_this_front a_this_cover a_this_behind a_this_climber a_this_numbers a_this_asked a_this_front_scores a_this_front_points a_this_front_counts a_this_front_ideals a_this_front_scales a_this_task_low a_this_task_high a_this_task_right a_this_task_terms a_this_task_from a_this_task_to a_this_task_costs : Nat) (c_this_front_scores : Nat → Int64) (c_this_front_size : Int32) (c_this_gone : Int32) (c_this_met : Int32) (c_this_task_aims : Int32) (c_this_task_columns : Int32) (c_this_task_points : Int32) (c_this_task_rows : Int32) (x1 : Int32) (post : Int32 → Prop) (hw : wp_X6_ideal c_this_front_scores c_this_front_size c_this_task_aims x1 post) : MetI l yX6_ideal wsX6_ideal rm_X6_ideal (dC, dI) cI cJ cZ cG [.ref a_this, .int x1] sz [(a_this, .inr (5, [.ref a_this_task, .ref a_this_front, .ref a_this_cover, .ref a_this_behind, .ref a_this_climber, .ref a_this_numbers, .ref a_this_asked, .int c_this_gone, .int c_this_met])), (a_this_front, .inr (3, [.ref a_this_front_scores, .ref a_this_front_points, .ref a_this_front_counts, .int c_this_front_size, .ref a_this_front_ideals, .ref a_this_front_scales])), (a_this_front_scores, .inl (cJ, 2000, .inr (.inl c_this_front_scores))), (a_this_task, .inr (4, [.ref a_this_task_low, .ref a_this_task_high, .ref a_this_task_right, .ref a_this_task_terms, .ref a_this_task_from, .ref a_this_task_to, .ref a_this_task_costs, .int c_this_task_columns, .int c_this_task_rows, .int c_this_task_aims, .int c_this_task_points]))] (fun (r : Int32) (u : Unit) => post r) (fun u => [(a_this, .inr (5, [.ref a_this_task, .ref a_this_front, .ref a_this_cover, .ref a_this_behind, .ref a_this_climber, .ref a_this_numbers, .ref a_this_asked, .int c_this_gone, .int c_this_met])), (a_this_front, .inr (3, [.ref a_this_front_scores, .ref a_this_front_points, .ref a_this_front_counts, .int c_this_front_size, .ref a_this_front_ideals, .ref a_this_front_scales])), (a_this_front_scores, .inl (cJ, 2000, .inr (.inl c_this_front_scores))), (a_this_task, .inr (4, [.ref a_this_task_low, .ref a_this_task_high, .ref a_this_task_right, .ref a_this_task_terms, .ref a_this_task_from, .ref a_this_task_to, .ref a_this_task_costs, .int c_this_task_columns, .int c_this_task_rows, .int c_this_task_aims, .int c_this_task_points]))]) := by
  refine met_i (ty := .int) (Or.inl rfl) (cc := cX6_ideal) (maxL := 2) (by decide) rfl (Nat.le_of_ble_eq_true rfl) ?_
  intro p e s m args below meth c A Q H locs ls K hG hl hret
  have hl : lv_has ls 2 [(0, .ref a_this), (1, .int x1)] := hl
  have hin_RX3 : ∀ w ∈ u_ws RX3 TX3 6, w ∈ wsX6_ideal := by decide +kernel
  have hin_RX5 : ∀ w ∈ u_ws RX5 TX5 11, w ∈ wsX6_ideal := by decide +kernel
  have hin_RX6 : ∀ w ∈ u_ws RX6 TX6 9, w ∈ wsX6_ideal := by decide +kernel
  unfold wp_X6_ideal at hw
  refine lv_iload_n K.1 K.2.1 dX6_ideal_0 rfl (lv_at hl 1 rfl) ?_
  refine lv_aload_n K.1 K.2.1 dX6_ideal_1 rfl (lv_at hl 0 rfl) ?_
  refine g_get (v := .ref a_this_task) K hG hin_RX6 0 rfl rfl 0 (by decide) (K.2.2.2.2.1 (.fieldLink RX6 10 "AimFronts" "task" "LAimFronts$Task;") (by decide +kernel)) rfl rfl dX6_ideal_2 ?_
  refine g_get (v := .int c_this_task_aims) K hG hin_RX5 3 rfl rfl 9 (by decide) (K.2.2.2.2.1 (.fieldLink RX6 85 "AimFronts$Task" "aims" "I") (by decide +kernel)) rfl rfl dX6_ideal_5 ?_
  refine g_ri K hG [] rfl (g_runS (As := [.int x1, .int c_this_task_aims]) (rest := []) K hG hl [] rfl rfl (k_X6_among l dC dI cI cJ cZ cG H.size x1 c_this_task_aims _ hw) (va_cwS 2 K.2.2.2.2.1 gX6_ideal_X6_among rfl rfl rfl (by decide +kernel) ⟨by decide, by decide⟩) rfl rfl (Nat.le_of_ble_eq_true rfl) ⟨Nat.zero_le _, Nat.zero_le _⟩ dX6_ideal_8) (fun r_8 H locs hw hG => ?_)
  refine lv_if_ne (tgt := 17) K.1 K.2.1 dX6_ideal_11 (by decide) (fun q_11 => ?_) (fun q_11 => ?_)
  · have hw := hw.2 q_11
    refine lv_aload_n K.1 K.2.1 dX6_ideal_17 rfl (lv_at hl 0 rfl) ?_
    refine g_get (v := .ref a_this_front) K hG hin_RX6 0 rfl rfl 1 (by decide) (K.2.2.2.2.1 (.fieldLink RX6 19 "AimFronts" "front" "LAimFronts$Front;") (by decide +kernel)) rfl rfl dX6_ideal_18 ?_
    refine g_get (v := .int c_this_front_size) K hG hin_RX3 1 rfl rfl 3 (by decide) (K.2.2.2.2.1 (.fieldLink RX6 121 "AimFronts$Front" "size" "I") (by decide +kernel)) rfl rfl dX6_ideal_21 ?_
    refine lv_if_ne (tgt := 32) K.1 K.2.1 dX6_ideal_24 (by decide) (fun q_24 => ?_) (fun q_24 => ?_)
    · have hw := hw.2 q_24
      refine lv_aload_n K.1 K.2.1 dX6_ideal_32 rfl (lv_at hl 0 rfl) ?_
      refine g_get (v := .ref a_this_front) K hG hin_RX6 0 rfl rfl 1 (by decide) (K.2.2.2.2.1 (.fieldLink RX6 19 "AimFronts" "front" "LAimFronts$Front;") (by decide +kernel)) rfl rfl dX6_ideal_33 ?_
      refine lv_iload_n K.1 K.2.1 dX6_ideal_36 rfl (lv_at hl 1 rfl) ?_
      refine g_ri K hG [1, 2] rfl (g_runV (As := [.int x1]) (rest := []) K hG hl [1, 2] rfl rfl 1 rfl rfl (k_X3_least l dC dI cI cJ cZ cG H.size a_this_front a_this_front_scores a_this_front_points a_this_front_counts a_this_front_ideals a_this_front_scales c_this_front_scores c_this_front_size x1 _ hw) (cwV 1 K.2.2.2.2.1 gX6_ideal_X3_least rfl rfl rfl (by decide +kernel) ⟨by decide, by decide⟩) rfl rfl (Nat.le_of_ble_eq_true rfl) ⟨Nat.zero_le _, Nat.zero_le _⟩ dX6_ideal_37) (fun r_37 H locs hw hG => ?_)
      exact hret r_37 () H locs _ ls dX6_ideal_40 rfl hw hG
    · have hw := hw.1 q_24
      refine lv_ldc (v := -1000002) K.1 K.2.1 K.2.2.2.1 (K.2.2.2.2.1 (.constant RX6 104 (-1000002)) (by decide +kernel)) dX6_ideal_27 ?_
      refine lv_goto (tgt := 40) K.1 K.2.1 dX6_ideal_29 (by decide) ?_
      exact hret (-1000002 : Int32) () H locs _ ls dX6_ideal_40 rfl hw hG
  · have hw := hw.1 q_11
    refine lv_ldc (v := -1000001) K.1 K.2.1 K.2.2.2.1 (K.2.2.2.2.1 (.constant RX6 55 (-1000001)) (by decide +kernel)) dX6_ideal_14 ?_
    exact hret (-1000001 : Int32) () H locs _ ls dX6_ideal_16 rfl hw hG
abbrev rm_X3_greatest : Room := { frames := 3, cells := 0, slots := 0, locals := 64 }
set_option maxHeartbeats 4000000 in
set_option maxRecDepth 100000 in
theorem k_X3_greatest (l : Launch) (dC : Nat → ClassId) (dI : Nat → Nat → Nat) (cI cJ cZ cG : ClassId) (sz : Nat) (a_this a_this_scores a_this_points a_this_counts a_this_ideals a_this_scales : Nat) (c_this_scores : Nat → Int64) (c_this_size : Int32) (x1 : Int32) (post : Int32 → Prop) (hw : wp_X3_greatest c_this_scores c_this_size x1 post) : MetI l yX3_greatest wsX3_greatest rm_X3_greatest (dC, dI) cI cJ cZ cG [.ref a_this, .int x1] sz [(a_this, .inr (3, [.ref a_this_scores, .ref a_this_points, .ref a_this_counts, .int c_this_size, .ref a_this_ideals, .ref a_this_scales])), (a_this_scores, .inl (cJ, 2000, .inr (.inl c_this_scores)))] (fun (r : Int32) (u : Unit) => post r) (fun u => [(a_this, .inr (3, [.ref a_this_scores, .ref a_this_points, .ref a_this_counts, .int c_this_size, .ref a_this_ideals, .ref a_this_scales])), (a_this_scores, .inl (cJ, 2000, .inr (.inl c_this_scores)))]) := by
  refine met_i (ty := .int) (Or.inl rfl) (cc := cX3_greatest) (maxL := 4) (by decide) rfl (Nat.le_of_ble_eq_true rfl) ?_
  intro p e s m args below meth c A Q H locs ls K hG hl hret
  have hl : lv_has ls 4 [(0, .ref a_this), (1, .int x1)] := hl
  have hin_RX3 : ∀ w ∈ u_ws RX3 TX3 6, w ∈ wsX3_greatest := by decide +kernel
  unfold wp_X3_greatest at hw
  refine lv_sipush (v := -2000) K.1 K.2.1 dX3_greatest_0 (by decide) ?_
  refine lv_istore_n (lv' := [(2, .int (-2000 : Int32)), (0, .ref a_this), (1, .int x1)]) K.1 K.2.1 dX3_greatest_3 rfl hl (by decide) rfl (fun ls hl => ?_)
  refine lv_iconst (v := 0) K.1 K.2.1 dX3_greatest_4 (by decide) ?_
  refine lv_istore_n (lv' := [(3, .int (0 : Int32)), (2, .int (-2000 : Int32)), (0, .ref a_this), (1, .int x1)]) K.1 K.2.1 dX3_greatest_5 rfl hl (by decide) rfl (fun ls hl => ?_)
  obtain ⟨kx_6, hkx_6, n_6, hw⟩ := Lx1_2_abs hw
  have hX_6 : ∀ (v2_6e : Int32) (H : Heap) (locs : List Loc) (ls : Array Slot), kx_6 v2_6e → HW (dC, dI) A s.heap [(a_this, .inr (3, [.ref a_this_scores, .ref a_this_points, .ref a_this_counts, .int c_this_size, .ref a_this_ideals, .ref a_this_scales])), (a_this_scores, .inl (cJ, 2000, .inr (.inl c_this_scores)))] H locs → lv_has ls 4 [(2, .int v2_6e)] → W p l e rm_X3_greatest s m args below meth c H locs 0 0 Q (F0 m 31 ls []) := by
    intro v2_6e H locs ls hw hG hl
    have hw := hkx_6 _ hw
    refine lv_iload_n K.1 K.2.1 dX3_greatest_31 rfl (lv_at hl 0 rfl) ?_
    exact hret v2_6e () H locs _ ls dX3_greatest_32 rfl hw hG
  have hL_6 : ∀ (n : Nat), ∀ (v2_6 : Int32) (v3_6 : Int32) (H : Heap) (locs : List Loc) (ls : Array Slot), Lp2 (b_X3_greatest_6 c_this_size c_this_scores x1 kx_6) n v2_6 v3_6 → HW (dC, dI) A s.heap [(a_this, .inr (3, [.ref a_this_scores, .ref a_this_points, .ref a_this_counts, .int c_this_size, .ref a_this_ideals, .ref a_this_scales])), (a_this_scores, .inl (cJ, 2000, .inr (.inl c_this_scores)))] H locs → lv_has ls 4 [(0, .ref a_this), (1, .int x1), (2, .int v2_6), (3, .int v3_6)] → W p l e rm_X3_greatest s m args below meth c H locs 0 0 Q (F0 m 6 ls []) := by
    intro n
    induction n with
    | zero => intro v2_6 v3_6 H locs ls hw; exact False.elim hw
    | succ n ih_6 =>
      intro v2_6 v3_6 H locs ls hw hG hl
      obtain ⟨w_6, hw_6, hw⟩ : ∃ w' : Int32 → Int32 → Prop, (∀ v2_6 v3_6, w' v2_6 v3_6 → Lp2 (b_X3_greatest_6 c_this_size c_this_scores x1 kx_6) n v2_6 v3_6) ∧ b_X3_greatest_6 c_this_size c_this_scores x1 kx_6 w' v2_6 v3_6 := ⟨_, fun _ _ h => h, hw⟩
      replace ih_6 : ∀ (v2_6 : Int32) (v3_6 : Int32) (H : Heap) (locs : List Loc) (ls : Array Slot), w_6 v2_6 v3_6 → HW (dC, dI) A s.heap [(a_this, .inr (3, [.ref a_this_scores, .ref a_this_points, .ref a_this_counts, .int c_this_size, .ref a_this_ideals, .ref a_this_scales])), (a_this_scores, .inl (cJ, 2000, .inr (.inl c_this_scores)))] H locs → lv_has ls 4 [(0, .ref a_this), (1, .int x1), (2, .int v2_6), (3, .int v3_6)] → W p l e rm_X3_greatest s m args below meth c H locs 0 0 Q (F0 m 6 ls []) := fun v2_6 v3_6 H locs ls h => ih_6 v2_6 v3_6 H locs ls (hw_6 _ _ h)
      unfold b_X3_greatest_6 at hw
      refine lv_iload_n K.1 K.2.1 dX3_greatest_6 rfl (lv_at hl 3 rfl) ?_
      refine lv_aload_n K.1 K.2.1 dX3_greatest_7 rfl (lv_at hl 0 rfl) ?_
      refine g_get (v := .int c_this_size) K hG hin_RX3 0 rfl rfl 3 (by decide) (K.2.2.2.2.1 (.fieldLink RX3 32 "AimFronts$Front" "size" "I") (by decide +kernel)) rfl rfl dX3_greatest_8 ?_
      refine lv_icmp_ge (tgt := 31) K.1 K.2.1 dX3_greatest_11 (by decide) (fun q_11 => ?_) (fun q_11 => ?_)
      · have hw := hw.1 q_11
        exact hX_6 v2_6 H locs ls hw hG (lv_sub hl [2] rfl)
      · have hw := hw.2 q_11
        refine lv_iload_n K.1 K.2.1 dX3_greatest_14 rfl (lv_at hl 2 rfl) ?_
        refine lv_aload_n K.1 K.2.1 dX3_greatest_15 rfl (lv_at hl 0 rfl) ?_
        refine lv_iload_n K.1 K.2.1 dX3_greatest_16 rfl (lv_at hl 3 rfl) ?_
        refine lv_iload_n K.1 K.2.1 dX3_greatest_17 rfl (lv_at hl 1 rfl) ?_
        refine g_ri K hG [0, 1] rfl (g_runV (As := [.int v3_6, .int x1]) (rest := [.int v2_6]) K hG hl [0, 1] rfl rfl 0 rfl rfl (k_X3_number l dC dI cI cJ cZ cG H.size a_this a_this_scores a_this_points a_this_counts a_this_ideals a_this_scales c_this_scores c_this_size v3_6 x1 _ hw) (cwV 2 K.2.2.2.2.1 gX3_greatest_X3_number rfl rfl rfl (by decide +kernel) ⟨by decide, by decide⟩) rfl rfl (Nat.le_of_ble_eq_true rfl) ⟨Nat.zero_le _, Nat.zero_le _⟩ dX3_greatest_18) (fun r_18 H locs hw hG => ?_)
        refine va_mmax K.1 K.2.1 (K.2.2.1.trans hl.1.symm) K.2.2.2.1 (K.2.2.2.2.1 (.methodLink RX3 76 Lib.Math.max.name) (by decide +kernel)) (K.2.2.2.2.1 (.static Lib.Math.max.name) (by decide +kernel)) (K.2.2.2.2.1 (.initialized "java/lang/Math") (by decide +kernel)) (K.2.2.2.2.1 (.code Lib.Math.max.name Lib.Math.max.code 2 (some .int)) (by decide +kernel)) (Nat.le_of_ble_eq_true rfl) (Nat.le_of_ble_eq_true rfl) (Nat.zero_le _) (Nat.zero_le _) dX3_greatest_21 ?_
        refine lv_istore_n (lv' := [(2, .int (if v2_6 < r_18 then r_18 else v2_6)), (0, .ref a_this), (1, .int x1), (3, .int v3_6)]) K.1 K.2.1 dX3_greatest_24 rfl hl (by decide) rfl (fun ls hl => ?_)
        refine lv_iinc (v := (v3_6 + (1 : Int32))) (lv' := [(3, .int (v3_6 + (1 : Int32))), (2, .int (if v2_6 < r_18 then r_18 else v2_6)), (0, .ref a_this), (1, .int x1)]) K.1 K.2.1 dX3_greatest_25 hl (k := 3) rfl rfl (by decide) rfl (fun ls hl => ?_)
        refine lv_goto (tgt := 6) K.1 K.2.1 dX3_greatest_28 (by decide) ?_
        exact ih_6 (if v2_6 < r_18 then r_18 else v2_6) (v3_6 + (1 : Int32)) H locs ls hw hG (lv_sub hl [2, 3, 1, 0] rfl)
  exact hL_6 n_6 (-2000 : Int32) (0 : Int32) H locs ls hw hG (lv_sub hl [2, 3, 1, 0] rfl)
abbrev rm_X6_nadir : Room := { frames := 4, cells := 0, slots := 0, locals := 87 }
set_option maxHeartbeats 4000000 in
set_option maxRecDepth 100000 in
theorem k_X6_nadir (l : Launch) (dC : Nat → ClassId) (dI : Nat → Nat → Nat) (cI cJ cZ cG : ClassId) (sz : Nat) (a_this a_this_task a_this_front a_this_cover a_this_behind a_this_climber a_this_numbers a_this_asked a_this_front_scores a_this_front_points a_this_front_counts a_this_front_ideals a_this_front_scales a_this_task_low a_this_task_high a_this_task_right a_this_task_terms a_this_task_from a_this_task_to a_this_task_costs : Nat) (c_this_front_scores : Nat → Int64) (c_this_front_size : Int32) (c_this_gone : Int32) (c_this_met : Int32) (c_this_task_aims : Int32) (c_this_task_columns : Int32) (c_this_task_points : Int32) (c_this_task_rows : Int32) (x1 : Int32) (post : Int32 → Prop) (hw : wp_X6_nadir c_this_front_scores c_this_front_size c_this_task_aims x1 post) : MetI l yX6_nadir wsX6_nadir rm_X6_nadir (dC, dI) cI cJ cZ cG [.ref a_this, .int x1] sz [(a_this, .inr (5, [.ref a_this_task, .ref a_this_front, .ref a_this_cover, .ref a_this_behind, .ref a_this_climber, .ref a_this_numbers, .ref a_this_asked, .int c_this_gone, .int c_this_met])), (a_this_front, .inr (3, [.ref a_this_front_scores, .ref a_this_front_points, .ref a_this_front_counts, .int c_this_front_size, .ref a_this_front_ideals, .ref a_this_front_scales])), (a_this_front_scores, .inl (cJ, 2000, .inr (.inl c_this_front_scores))), (a_this_task, .inr (4, [.ref a_this_task_low, .ref a_this_task_high, .ref a_this_task_right, .ref a_this_task_terms, .ref a_this_task_from, .ref a_this_task_to, .ref a_this_task_costs, .int c_this_task_columns, .int c_this_task_rows, .int c_this_task_aims, .int c_this_task_points]))] (fun (r : Int32) (u : Unit) => post r) (fun u => [(a_this, .inr (5, [.ref a_this_task, .ref a_this_front, .ref a_this_cover, .ref a_this_behind, .ref a_this_climber, .ref a_this_numbers, .ref a_this_asked, .int c_this_gone, .int c_this_met])), (a_this_front, .inr (3, [.ref a_this_front_scores, .ref a_this_front_points, .ref a_this_front_counts, .int c_this_front_size, .ref a_this_front_ideals, .ref a_this_front_scales])), (a_this_front_scores, .inl (cJ, 2000, .inr (.inl c_this_front_scores))), (a_this_task, .inr (4, [.ref a_this_task_low, .ref a_this_task_high, .ref a_this_task_right, .ref a_this_task_terms, .ref a_this_task_from, .ref a_this_task_to, .ref a_this_task_costs, .int c_this_task_columns, .int c_this_task_rows, .int c_this_task_aims, .int c_this_task_points]))]) := by
  refine met_i (ty := .int) (Or.inl rfl) (cc := cX6_nadir) (maxL := 2) (by decide) rfl (Nat.le_of_ble_eq_true rfl) ?_
  intro p e s m args below meth c A Q H locs ls K hG hl hret
  have hl : lv_has ls 2 [(0, .ref a_this), (1, .int x1)] := hl
  have hin_RX3 : ∀ w ∈ u_ws RX3 TX3 6, w ∈ wsX6_nadir := by decide +kernel
  have hin_RX5 : ∀ w ∈ u_ws RX5 TX5 11, w ∈ wsX6_nadir := by decide +kernel
  have hin_RX6 : ∀ w ∈ u_ws RX6 TX6 9, w ∈ wsX6_nadir := by decide +kernel
  unfold wp_X6_nadir at hw
  refine lv_iload_n K.1 K.2.1 dX6_nadir_0 rfl (lv_at hl 1 rfl) ?_
  refine lv_aload_n K.1 K.2.1 dX6_nadir_1 rfl (lv_at hl 0 rfl) ?_
  refine g_get (v := .ref a_this_task) K hG hin_RX6 0 rfl rfl 0 (by decide) (K.2.2.2.2.1 (.fieldLink RX6 10 "AimFronts" "task" "LAimFronts$Task;") (by decide +kernel)) rfl rfl dX6_nadir_2 ?_
  refine g_get (v := .int c_this_task_aims) K hG hin_RX5 3 rfl rfl 9 (by decide) (K.2.2.2.2.1 (.fieldLink RX6 85 "AimFronts$Task" "aims" "I") (by decide +kernel)) rfl rfl dX6_nadir_5 ?_
  refine g_ri K hG [] rfl (g_runS (As := [.int x1, .int c_this_task_aims]) (rest := []) K hG hl [] rfl rfl (k_X6_among l dC dI cI cJ cZ cG H.size x1 c_this_task_aims _ hw) (va_cwS 2 K.2.2.2.2.1 gX6_nadir_X6_among rfl rfl rfl (by decide +kernel) ⟨by decide, by decide⟩) rfl rfl (Nat.le_of_ble_eq_true rfl) ⟨Nat.zero_le _, Nat.zero_le _⟩ dX6_nadir_8) (fun r_8 H locs hw hG => ?_)
  refine lv_if_ne (tgt := 17) K.1 K.2.1 dX6_nadir_11 (by decide) (fun q_11 => ?_) (fun q_11 => ?_)
  · have hw := hw.2 q_11
    refine lv_aload_n K.1 K.2.1 dX6_nadir_17 rfl (lv_at hl 0 rfl) ?_
    refine g_get (v := .ref a_this_front) K hG hin_RX6 0 rfl rfl 1 (by decide) (K.2.2.2.2.1 (.fieldLink RX6 19 "AimFronts" "front" "LAimFronts$Front;") (by decide +kernel)) rfl rfl dX6_nadir_18 ?_
    refine g_get (v := .int c_this_front_size) K hG hin_RX3 1 rfl rfl 3 (by decide) (K.2.2.2.2.1 (.fieldLink RX6 121 "AimFronts$Front" "size" "I") (by decide +kernel)) rfl rfl dX6_nadir_21 ?_
    refine lv_if_ne (tgt := 32) K.1 K.2.1 dX6_nadir_24 (by decide) (fun q_24 => ?_) (fun q_24 => ?_)
    · have hw := hw.2 q_24
      refine lv_aload_n K.1 K.2.1 dX6_nadir_32 rfl (lv_at hl 0 rfl) ?_
      refine g_get (v := .ref a_this_front) K hG hin_RX6 0 rfl rfl 1 (by decide) (K.2.2.2.2.1 (.fieldLink RX6 19 "AimFronts" "front" "LAimFronts$Front;") (by decide +kernel)) rfl rfl dX6_nadir_33 ?_
      refine lv_iload_n K.1 K.2.1 dX6_nadir_36 rfl (lv_at hl 1 rfl) ?_
      refine g_ri K hG [1, 2] rfl (g_runV (As := [.int x1]) (rest := []) K hG hl [1, 2] rfl rfl 1 rfl rfl (k_X3_greatest l dC dI cI cJ cZ cG H.size a_this_front a_this_front_scores a_this_front_points a_this_front_counts a_this_front_ideals a_this_front_scales c_this_front_scores c_this_front_size x1 _ hw) (cwV 1 K.2.2.2.2.1 gX6_nadir_X3_greatest rfl rfl rfl (by decide +kernel) ⟨by decide, by decide⟩) rfl rfl (Nat.le_of_ble_eq_true rfl) ⟨Nat.zero_le _, Nat.zero_le _⟩ dX6_nadir_37) (fun r_37 H locs hw hG => ?_)
      exact hret r_37 () H locs _ ls dX6_nadir_40 rfl hw hG
    · have hw := hw.1 q_24
      refine lv_ldc (v := -1000002) K.1 K.2.1 K.2.2.2.1 (K.2.2.2.2.1 (.constant RX6 104 (-1000002)) (by decide +kernel)) dX6_nadir_27 ?_
      refine lv_goto (tgt := 40) K.1 K.2.1 dX6_nadir_29 (by decide) ?_
      exact hret (-1000002 : Int32) () H locs _ ls dX6_nadir_40 rfl hw hG
  · have hw := hw.1 q_11
    refine lv_ldc (v := -1000001) K.1 K.2.1 K.2.2.2.1 (K.2.2.2.2.1 (.constant RX6 55 (-1000001)) (by decide +kernel)) dX6_nadir_14 ?_
    exact hret (-1000001 : Int32) () H locs _ ls dX6_nadir_16 rfl hw hG
abbrev rm_X3_measure : Room := { frames := 4, cells := 0, slots := 0, locals := 87 }
set_option maxHeartbeats 4000000 in
set_option maxRecDepth 100000 in
theorem k_X3_measure (l : Launch) (dC : Nat → ClassId) (dI : Nat → Nat → Nat) (cI cJ cZ cG : ClassId) (sz : Nat) (a_this a_this_scores a_this_points a_this_counts a_this_ideals a_this_scales : Nat) (c_this_ideals : Nat → Int32) (c_this_scales : Nat → Int64) (c_this_scores : Nat → Int64) (c_this_size : Int32) (x1 : Int32) (post : (Nat → Int32) → (Nat → Int64) → Prop) (hw : wp_X3_measure c_this_ideals c_this_scales c_this_scores c_this_size x1 post) : MetV l yX3_measure wsX3_measure rm_X3_measure (dC, dI) cI cJ cZ cG [.ref a_this, .int x1] sz [(a_this, .inr (3, [.ref a_this_scores, .ref a_this_points, .ref a_this_counts, .int c_this_size, .ref a_this_ideals, .ref a_this_scales])), (a_this_ideals, .inl (cI, 4, .inl c_this_ideals)), (a_this_scales, .inl (cJ, 4, .inr (.inl c_this_scales))), (a_this_scores, .inl (cJ, 2000, .inr (.inl c_this_scores)))] (fun (u : (Nat → Int32) × (Nat → Int64)) => post (u.1) (u.2)) (fun u => [(a_this, .inr (3, [.ref a_this_scores, .ref a_this_points, .ref a_this_counts, .int c_this_size, .ref a_this_ideals, .ref a_this_scales])), (a_this_ideals, .inl (cI, 4, .inl (u.1))), (a_this_scales, .inl (cJ, 4, .inr (.inl (u.2)))), (a_this_scores, .inl (cJ, 2000, .inr (.inl c_this_scores)))]) := by
  refine met_v (cc := cX3_measure) (maxL := 5) (by decide) rfl (Nat.le_of_ble_eq_true rfl) ?_
  intro p e s m args below meth c A Q H locs ls K hG hl hret
  have hl : lv_has ls 5 [(0, .ref a_this), (1, .int x1)] := hl
  have hin_RX3 : ∀ w ∈ u_ws RX3 TX3 6, w ∈ wsX3_measure := by decide +kernel
  unfold wp_X3_measure at hw
  refine lv_lconst (v := 1) K.1 K.2.1 dX3_measure_0 (by decide) ?_
  refine lv_lstore_n (lv' := [(2, .long (1 : Int64)), (0, .ref a_this), (1, .int x1)]) K.1 K.2.1 dX3_measure_1 rfl hl (by decide) rfl (fun ls hl => ?_)
  refine lv_iconst (v := 0) K.1 K.2.1 dX3_measure_2 (by decide) ?_
  refine lv_istore (lv' := [(4, .int (0 : Int32)), (2, .long (1 : Int64)), (0, .ref a_this), (1, .int x1)]) K.1 K.2.1 dX3_measure_3 hl (by decide) rfl (fun ls hl => ?_)
  obtain ⟨kx_5, hkx_5, n_5, hw⟩ := Lx3_4_abs hw
  have hX_5 : ∀ (v2_5e : Int64) (c_this_ideals_5e : Nat → Int32) (c_this_scales_5e : Nat → Int64) (H : Heap) (locs : List Loc) (ls : Array Slot), kx_5 v2_5e c_this_ideals_5e c_this_scales_5e → HW (dC, dI) A s.heap [(a_this, .inr (3, [.ref a_this_scores, .ref a_this_points, .ref a_this_counts, .int c_this_size, .ref a_this_ideals, .ref a_this_scales])), (a_this_ideals, .inl (cI, 4, .inl c_this_ideals_5e)), (a_this_scales, .inl (cJ, 4, .inr (.inl c_this_scales_5e))), (a_this_scores, .inl (cJ, 2000, .inr (.inl c_this_scores)))] H locs → lv_has ls 5 [(0, .ref a_this), (1, .int x1), (2, .long v2_5e)] → W p l e rm_X3_measure s m args below meth c H locs 0 0 Q (F0 m 66 ls []) := by
    intro v2_5e c_this_ideals_5e c_this_scales_5e H locs ls hw hG hl
    have hw := hkx_5 _ _ _ hw
    refine lv_iconst (v := 0) K.1 K.2.1 dX3_measure_66 (by decide) ?_
    refine lv_istore (lv' := [(4, .int (0 : Int32)), (0, .ref a_this), (1, .int x1), (2, .long v2_5e)]) K.1 K.2.1 dX3_measure_67 hl (by decide) rfl (fun ls hl => ?_)
    obtain ⟨kx_69, hkx_69, n_69, hw⟩ := Lx1_2_abs hw
    have hX_69 : ∀ (c_this_scales_69e : Nat → Int64) (H : Heap) (locs : List Loc) (ls : Array Slot), kx_69 c_this_scales_69e → HW (dC, dI) A s.heap [(a_this, .inr (3, [.ref a_this_scores, .ref a_this_points, .ref a_this_counts, .int c_this_size, .ref a_this_ideals, .ref a_this_scales])), (a_this_ideals, .inl (cI, 4, .inl c_this_ideals_5e)), (a_this_scales, .inl (cJ, 4, .inr (.inl c_this_scales_69e))), (a_this_scores, .inl (cJ, 2000, .inr (.inl c_this_scores)))] H locs → lv_has ls 5 [] → W p l e rm_X3_measure s m args below meth c H locs 0 0 Q (F0 m 101 ls []) := by
      intro c_this_scales_69e H locs ls hw hG hl
      have hw := hkx_69 _ hw
      exact hret (c_this_ideals_5e, c_this_scales_69e) H locs _ ls dX3_measure_101 hw hG
    have hL_69 : ∀ (n : Nat), ∀ (v4_69 : Int32) (c_this_scales_69 : Nat → Int64) (H : Heap) (locs : List Loc) (ls : Array Slot), Lp2 (b_X3_measure_69 x1 v2_5e kx_69) n v4_69 c_this_scales_69 → HW (dC, dI) A s.heap [(a_this, .inr (3, [.ref a_this_scores, .ref a_this_points, .ref a_this_counts, .int c_this_size, .ref a_this_ideals, .ref a_this_scales])), (a_this_ideals, .inl (cI, 4, .inl c_this_ideals_5e)), (a_this_scales, .inl (cJ, 4, .inr (.inl c_this_scales_69))), (a_this_scores, .inl (cJ, 2000, .inr (.inl c_this_scores)))] H locs → lv_has ls 5 [(0, .ref a_this), (1, .int x1), (2, .long v2_5e), (4, .int v4_69)] → W p l e rm_X3_measure s m args below meth c H locs 0 0 Q (F0 m 69 ls []) := by
      intro n
      induction n with
      | zero => intro v4_69 c_this_scales_69 H locs ls hw; exact False.elim hw
      | succ n ih_69 =>
        intro v4_69 c_this_scales_69 H locs ls hw hG hl
        obtain ⟨w_69, hw_69, hw⟩ : ∃ w' : Int32 → (Nat → Int64) → Prop, (∀ v4_69 c_this_scales_69, w' v4_69 c_this_scales_69 → Lp2 (b_X3_measure_69 x1 v2_5e kx_69) n v4_69 c_this_scales_69) ∧ b_X3_measure_69 x1 v2_5e kx_69 w' v4_69 c_this_scales_69 := ⟨_, fun _ _ h => h, hw⟩
        replace ih_69 : ∀ (v4_69 : Int32) (c_this_scales_69 : Nat → Int64) (H : Heap) (locs : List Loc) (ls : Array Slot), w_69 v4_69 c_this_scales_69 → HW (dC, dI) A s.heap [(a_this, .inr (3, [.ref a_this_scores, .ref a_this_points, .ref a_this_counts, .int c_this_size, .ref a_this_ideals, .ref a_this_scales])), (a_this_ideals, .inl (cI, 4, .inl c_this_ideals_5e)), (a_this_scales, .inl (cJ, 4, .inr (.inl c_this_scales_69))), (a_this_scores, .inl (cJ, 2000, .inr (.inl c_this_scores)))] H locs → lv_has ls 5 [(0, .ref a_this), (1, .int x1), (2, .long v2_5e), (4, .int v4_69)] → W p l e rm_X3_measure s m args below meth c H locs 0 0 Q (F0 m 69 ls []) := fun v4_69 c_this_scales_69 H locs ls h => ih_69 v4_69 c_this_scales_69 H locs ls (hw_69 _ _ h)
        unfold b_X3_measure_69 at hw
        refine lv_iload K.1 K.2.1 dX3_measure_69 (lv_at hl 3 rfl) ?_
        refine lv_iload_n K.1 K.2.1 dX3_measure_71 rfl (lv_at hl 1 rfl) ?_
        refine lv_icmp_ge (tgt := 101) K.1 K.2.1 dX3_measure_72 (by decide) (fun q_72 => ?_) (fun q_72 => ?_)
        · have hw := hw.1 q_72
          exact hX_69 c_this_scales_69 H locs ls hw hG (lv_sub hl [] rfl)
        · have hw := hw.2 q_72
          refine lv_aload_n K.1 K.2.1 dX3_measure_75 rfl (lv_at hl 0 rfl) ?_
          refine g_get (v := .ref a_this_scales) K hG hin_RX3 0 rfl rfl 5 (by decide) (K.2.2.2.2.1 (.fieldLink RX3 25 "AimFronts$Front" "scales" "[J") (by decide +kernel)) rfl rfl dX3_measure_76 ?_
          refine lv_iload K.1 K.2.1 dX3_measure_79 (lv_at hl 3 rfl) ?_
          refine lv_lload_n K.1 K.2.1 dX3_measure_81 rfl (lv_at hl 2 rfl) ?_
          refine lv_lconst (v := 1) K.1 K.2.1 dX3_measure_82 (by decide) ?_
          refine lv_aload_n K.1 K.2.1 dX3_measure_83 rfl (lv_at hl 0 rfl) ?_
          refine g_get (v := .ref a_this_scales) K hG hin_RX3 0 rfl rfl 5 (by decide) (K.2.2.2.2.1 (.fieldLink RX3 25 "AimFronts$Front" "scales" "[J") (by decide +kernel)) rfl rfl dX3_measure_84 ?_
          refine lv_iload K.1 K.2.1 dX3_measure_87 (lv_at hl 3 rfl) ?_
          obtain ⟨h_89, hw⟩ := hw
          refine g_lald K hG 2 rfl h_89 dX3_measure_89 ?_
          refine va_mmax_long K.1 K.2.1 (K.2.2.1.trans hl.1.symm) K.2.2.2.1 (K.2.2.2.2.1 (.methodLink RX3 87 Lib.MathLoose.max_long.x) (by decide +kernel)) (K.2.2.2.2.1 (.static Lib.MathLoose.max_long.x) (by decide +kernel)) (K.2.2.2.2.1 (.initialized "java/lang/Math") (by decide +kernel)) (K.2.2.2.2.1 (.code Lib.MathLoose.max_long.x Lib.MathLoose.max_long.code 4 (some .long)) (by decide +kernel)) (Nat.le_of_ble_eq_true rfl) (Nat.le_of_ble_eq_true rfl) (Nat.zero_le _) (Nat.zero_le _) dX3_measure_90 ?_
          obtain ⟨h_93, hw⟩ := hw
          refine lv_ldiv K.1 K.2.1 dX3_measure_93 h_93 ?_
          obtain ⟨h_94, hw⟩ := hw
          refine g_last (ws' := [(a_this, .inr (3, [.ref a_this_scores, .ref a_this_points, .ref a_this_counts, .int c_this_size, .ref a_this_ideals, .ref a_this_scales])), (a_this_ideals, .inl (cI, 4, .inl c_this_ideals_5e)), (a_this_scales, .inl (cJ, 4, .inr (.inl (vp_updL c_this_scales_69 (v4_69).toNatClampNeg (v2_5e / (if (c_this_scales_69 (v4_69).toNatClampNeg) < (1 : Int64) then (1 : Int64) else (c_this_scales_69 (v4_69).toNatClampNeg))))))), (a_this_scores, .inl (cJ, 2000, .inr (.inl c_this_scores)))]) K hG 2 rfl h_94 rfl dX3_measure_94 (fun H locs hG => ?_)
          refine lv_iinc (v := (v4_69 + (1 : Int32))) (lv' := [(4, .int (v4_69 + (1 : Int32))), (0, .ref a_this), (1, .int x1), (2, .long v2_5e)]) K.1 K.2.1 dX3_measure_95 hl (k := 3) rfl rfl (by decide) rfl (fun ls hl => ?_)
          refine lv_goto (tgt := 69) K.1 K.2.1 dX3_measure_98 (by decide) ?_
          exact ih_69 (v4_69 + (1 : Int32)) (vp_updL c_this_scales_69 (v4_69).toNatClampNeg (v2_5e / (if (c_this_scales_69 (v4_69).toNatClampNeg) < (1 : Int64) then (1 : Int64) else (c_this_scales_69 (v4_69).toNatClampNeg)))) H locs ls hw hG (lv_sub hl [1, 2, 3, 0] rfl)
    exact hL_69 n_69 (0 : Int32) c_this_scales_5e H locs ls hw hG (lv_sub hl [1, 2, 3, 0] rfl)
  have hL_5 : ∀ (n : Nat), ∀ (v2_5 : Int64) (v4_5 : Int32) (c_this_ideals_5 : Nat → Int32) (c_this_scales_5 : Nat → Int64) (H : Heap) (locs : List Loc) (ls : Array Slot), Lp4 (b_X3_measure_5 c_this_size c_this_scores x1 kx_5) n v2_5 v4_5 c_this_ideals_5 c_this_scales_5 → HW (dC, dI) A s.heap [(a_this, .inr (3, [.ref a_this_scores, .ref a_this_points, .ref a_this_counts, .int c_this_size, .ref a_this_ideals, .ref a_this_scales])), (a_this_ideals, .inl (cI, 4, .inl c_this_ideals_5)), (a_this_scales, .inl (cJ, 4, .inr (.inl c_this_scales_5))), (a_this_scores, .inl (cJ, 2000, .inr (.inl c_this_scores)))] H locs → lv_has ls 5 [(0, .ref a_this), (1, .int x1), (2, .long v2_5), (4, .int v4_5)] → W p l e rm_X3_measure s m args below meth c H locs 0 0 Q (F0 m 5 ls []) := by
    intro n
    induction n with
    | zero => intro v2_5 v4_5 c_this_ideals_5 c_this_scales_5 H locs ls hw; exact False.elim hw
    | succ n ih_5 =>
      intro v2_5 v4_5 c_this_ideals_5 c_this_scales_5 H locs ls hw hG hl
      obtain ⟨w_5, hw_5, hw⟩ : ∃ w' : Int64 → Int32 → (Nat → Int32) → (Nat → Int64) → Prop, (∀ v2_5 v4_5 c_this_ideals_5 c_this_scales_5, w' v2_5 v4_5 c_this_ideals_5 c_this_scales_5 → Lp4 (b_X3_measure_5 c_this_size c_this_scores x1 kx_5) n v2_5 v4_5 c_this_ideals_5 c_this_scales_5) ∧ b_X3_measure_5 c_this_size c_this_scores x1 kx_5 w' v2_5 v4_5 c_this_ideals_5 c_this_scales_5 := ⟨_, fun _ _ _ _ h => h, hw⟩
      replace ih_5 : ∀ (v2_5 : Int64) (v4_5 : Int32) (c_this_ideals_5 : Nat → Int32) (c_this_scales_5 : Nat → Int64) (H : Heap) (locs : List Loc) (ls : Array Slot), w_5 v2_5 v4_5 c_this_ideals_5 c_this_scales_5 → HW (dC, dI) A s.heap [(a_this, .inr (3, [.ref a_this_scores, .ref a_this_points, .ref a_this_counts, .int c_this_size, .ref a_this_ideals, .ref a_this_scales])), (a_this_ideals, .inl (cI, 4, .inl c_this_ideals_5)), (a_this_scales, .inl (cJ, 4, .inr (.inl c_this_scales_5))), (a_this_scores, .inl (cJ, 2000, .inr (.inl c_this_scores)))] H locs → lv_has ls 5 [(0, .ref a_this), (1, .int x1), (2, .long v2_5), (4, .int v4_5)] → W p l e rm_X3_measure s m args below meth c H locs 0 0 Q (F0 m 5 ls []) := fun v2_5 v4_5 c_this_ideals_5 c_this_scales_5 H locs ls h => ih_5 v2_5 v4_5 c_this_ideals_5 c_this_scales_5 H locs ls (hw_5 _ _ _ _ h)
      unfold b_X3_measure_5 at hw
      refine lv_iload K.1 K.2.1 dX3_measure_5 (lv_at hl 3 rfl) ?_
      refine lv_iload_n K.1 K.2.1 dX3_measure_7 rfl (lv_at hl 1 rfl) ?_
      refine lv_icmp_ge (tgt := 66) K.1 K.2.1 dX3_measure_8 (by decide) (fun q_8 => ?_) (fun q_8 => ?_)
      · have hw := hw.1 q_8
        exact hX_5 v2_5 c_this_ideals_5 c_this_scales_5 H locs ls hw hG (lv_sub hl [0, 1, 2] rfl)
      · have hw := hw.2 q_8
        refine lv_aload_n K.1 K.2.1 dX3_measure_11 rfl (lv_at hl 0 rfl) ?_
        refine g_get (v := .ref a_this_ideals) K hG hin_RX3 0 rfl rfl 4 (by decide) (K.2.2.2.2.1 (.fieldLink RX3 22 "AimFronts$Front" "ideals" "[I") (by decide +kernel)) rfl rfl dX3_measure_12 ?_
        refine lv_iload K.1 K.2.1 dX3_measure_15 (lv_at hl 3 rfl) ?_
        refine lv_aload_n K.1 K.2.1 dX3_measure_17 rfl (lv_at hl 0 rfl) ?_
        refine lv_iload K.1 K.2.1 dX3_measure_18 (lv_at hl 3 rfl) ?_
        refine g_ri K hG [0, 3] rfl (g_runV (As := [.int v4_5]) (rest := [.int v4_5, .ref a_this_ideals]) K hG hl [0, 3] rfl rfl 0 rfl rfl (k_X3_least l dC dI cI cJ cZ cG H.size a_this a_this_scores a_this_points a_this_counts a_this_ideals a_this_scales c_this_scores c_this_size v4_5 _ hw) (cwV 1 K.2.2.2.2.1 gX3_measure_X3_least rfl rfl rfl (by decide +kernel) ⟨by decide, by decide⟩) rfl rfl (Nat.le_of_ble_eq_true rfl) ⟨Nat.zero_le _, Nat.zero_le _⟩ dX3_measure_20) (fun r_20 H locs hw hG => ?_)
        obtain ⟨h_23, hw⟩ := hw
        refine g_iast (ws' := [(a_this, .inr (3, [.ref a_this_scores, .ref a_this_points, .ref a_this_counts, .int c_this_size, .ref a_this_ideals, .ref a_this_scales])), (a_this_ideals, .inl (cI, 4, .inl (upd c_this_ideals_5 (v4_5).toNatClampNeg r_20))), (a_this_scales, .inl (cJ, 4, .inr (.inl c_this_scales_5))), (a_this_scores, .inl (cJ, 2000, .inr (.inl c_this_scores)))]) K hG 1 rfl h_23 rfl dX3_measure_23 (fun H locs hG => ?_)
        refine lv_aload_n K.1 K.2.1 dX3_measure_24 rfl (lv_at hl 0 rfl) ?_
        refine g_get (v := .ref a_this_scales) K hG hin_RX3 0 rfl rfl 5 (by decide) (K.2.2.2.2.1 (.fieldLink RX3 25 "AimFronts$Front" "scales" "[J") (by decide +kernel)) rfl rfl dX3_measure_25 ?_
        refine lv_iload K.1 K.2.1 dX3_measure_28 (lv_at hl 3 rfl) ?_
        refine lv_iconst (v := 1) K.1 K.2.1 dX3_measure_30 (by decide) ?_
        refine lv_aload_n K.1 K.2.1 dX3_measure_31 rfl (lv_at hl 0 rfl) ?_
        refine lv_iload K.1 K.2.1 dX3_measure_32 (lv_at hl 3 rfl) ?_
        refine g_ri K hG [0, 3] rfl (g_runV (As := [.int v4_5]) (rest := [.int (1 : Int32), .int v4_5, .ref a_this_scales]) K hG hl [0, 3] rfl rfl 0 rfl rfl (k_X3_greatest l dC dI cI cJ cZ cG H.size a_this a_this_scores a_this_points a_this_counts a_this_ideals a_this_scales c_this_scores c_this_size v4_5 _ hw) (cwV 1 K.2.2.2.2.1 gX3_measure_X3_greatest rfl rfl rfl (by decide +kernel) ⟨by decide, by decide⟩) rfl rfl (Nat.le_of_ble_eq_true rfl) ⟨Nat.zero_le _, Nat.zero_le _⟩ dX3_measure_34) (fun r_34 H locs hw hG => ?_)
        refine lv_aload_n K.1 K.2.1 dX3_measure_37 rfl (lv_at hl 0 rfl) ?_
        refine g_get (v := .ref a_this_ideals) K hG hin_RX3 0 rfl rfl 4 (by decide) (K.2.2.2.2.1 (.fieldLink RX3 22 "AimFronts$Front" "ideals" "[I") (by decide +kernel)) rfl rfl dX3_measure_38 ?_
        refine lv_iload K.1 K.2.1 dX3_measure_41 (lv_at hl 3 rfl) ?_
        obtain ⟨h_43, hw⟩ := hw
        refine g_iald K hG 1 rfl h_43 dX3_measure_43 ?_
        refine lv_isub K.1 K.2.1 dX3_measure_44 ?_
        refine va_mmax K.1 K.2.1 (K.2.2.1.trans hl.1.symm) K.2.2.2.1 (K.2.2.2.2.1 (.methodLink RX3 76 Lib.Math.max.name) (by decide +kernel)) (K.2.2.2.2.1 (.static Lib.Math.max.name) (by decide +kernel)) (K.2.2.2.2.1 (.initialized "java/lang/Math") (by decide +kernel)) (K.2.2.2.2.1 (.code Lib.Math.max.name Lib.Math.max.code 2 (some .int)) (by decide +kernel)) (Nat.le_of_ble_eq_true rfl) (Nat.le_of_ble_eq_true rfl) (Nat.zero_le _) (Nat.zero_le _) dX3_measure_45 ?_
        refine lv_i2l K.1 K.2.1 dX3_measure_48 rfl ?_
        obtain ⟨h_49, hw⟩ := hw
        refine g_last (ws' := [(a_this, .inr (3, [.ref a_this_scores, .ref a_this_points, .ref a_this_counts, .int c_this_size, .ref a_this_ideals, .ref a_this_scales])), (a_this_ideals, .inl (cI, 4, .inl (upd c_this_ideals_5 (v4_5).toNatClampNeg r_20))), (a_this_scales, .inl (cJ, 4, .inr (.inl (vp_updL c_this_scales_5 (v4_5).toNatClampNeg (((if (1 : Int32) < (r_34 - ((upd c_this_ideals_5 (v4_5).toNatClampNeg r_20) (v4_5).toNatClampNeg)) then (r_34 - ((upd c_this_ideals_5 (v4_5).toNatClampNeg r_20) (v4_5).toNatClampNeg)) else (1 : Int32))).toInt64))))), (a_this_scores, .inl (cJ, 2000, .inr (.inl c_this_scores)))]) K hG 2 rfl h_49 rfl dX3_measure_49 (fun H locs hG => ?_)
        refine lv_lload_n K.1 K.2.1 dX3_measure_50 rfl (lv_at hl 2 rfl) ?_
        refine lv_aload_n K.1 K.2.1 dX3_measure_51 rfl (lv_at hl 0 rfl) ?_
        refine g_get (v := .ref a_this_scales) K hG hin_RX3 0 rfl rfl 5 (by decide) (K.2.2.2.2.1 (.fieldLink RX3 25 "AimFronts$Front" "scales" "[J") (by decide +kernel)) rfl rfl dX3_measure_52 ?_
        refine lv_iload K.1 K.2.1 dX3_measure_55 (lv_at hl 3 rfl) ?_
        obtain ⟨h_57, hw⟩ := hw
        refine g_lald K hG 2 rfl h_57 dX3_measure_57 ?_
        refine lv_lmul K.1 K.2.1 dX3_measure_58 ?_
        refine lv_lstore_n (lv' := [(2, .long (v2_5 * ((vp_updL c_this_scales_5 (v4_5).toNatClampNeg (((if (1 : Int32) < (r_34 - ((upd c_this_ideals_5 (v4_5).toNatClampNeg r_20) (v4_5).toNatClampNeg)) then (r_34 - ((upd c_this_ideals_5 (v4_5).toNatClampNeg r_20) (v4_5).toNatClampNeg)) else (1 : Int32))).toInt64)) (v4_5).toNatClampNeg))), (0, .ref a_this), (1, .int x1), (4, .int v4_5)]) K.1 K.2.1 dX3_measure_59 rfl hl (by decide) rfl (fun ls hl => ?_)
        refine lv_iinc (v := (v4_5 + (1 : Int32))) (lv' := [(4, .int (v4_5 + (1 : Int32))), (2, .long (v2_5 * ((vp_updL c_this_scales_5 (v4_5).toNatClampNeg (((if (1 : Int32) < (r_34 - ((upd c_this_ideals_5 (v4_5).toNatClampNeg r_20) (v4_5).toNatClampNeg)) then (r_34 - ((upd c_this_ideals_5 (v4_5).toNatClampNeg r_20) (v4_5).toNatClampNeg)) else (1 : Int32))).toInt64)) (v4_5).toNatClampNeg))), (0, .ref a_this), (1, .int x1)]) K.1 K.2.1 dX3_measure_60 hl (k := 3) rfl rfl (by decide) rfl (fun ls hl => ?_)
        refine lv_goto (tgt := 5) K.1 K.2.1 dX3_measure_63 (by decide) ?_
        exact ih_5 (v2_5 * ((vp_updL c_this_scales_5 (v4_5).toNatClampNeg (((if (1 : Int32) < (r_34 - ((upd c_this_ideals_5 (v4_5).toNatClampNeg r_20) (v4_5).toNatClampNeg)) then (r_34 - ((upd c_this_ideals_5 (v4_5).toNatClampNeg r_20) (v4_5).toNatClampNeg)) else (1 : Int32))).toInt64)) (v4_5).toNatClampNeg)) (v4_5 + (1 : Int32)) (upd c_this_ideals_5 (v4_5).toNatClampNeg r_20) (vp_updL c_this_scales_5 (v4_5).toNatClampNeg (((if (1 : Int32) < (r_34 - ((upd c_this_ideals_5 (v4_5).toNatClampNeg r_20) (v4_5).toNatClampNeg)) then (r_34 - ((upd c_this_ideals_5 (v4_5).toNatClampNeg r_20) (v4_5).toNatClampNeg)) else (1 : Int32))).toInt64)) H locs ls hw hG (lv_sub hl [2, 3, 1, 0] rfl)
  exact hL_5 n_5 (1 : Int64) (0 : Int32) c_this_ideals c_this_scales H locs ls hw hG (lv_sub hl [2, 3, 1, 0] rfl)
abbrev rm_X3_kneeBy : Room := { frames := 5, cells := 0, slots := 0, locals := 111 }
set_option maxHeartbeats 4000000 in
set_option maxRecDepth 100000 in
theorem k_X3_kneeBy (l : Launch) (dC : Nat → ClassId) (dI : Nat → Nat → Nat) (cI cJ cZ cG : ClassId) (sz : Nat) (a_this a_this_scores a_this_points a_this_counts a_this_ideals a_this_scales : Nat) (c_this_ideals : Nat → Int32) (c_this_scales : Nat → Int64) (c_this_scores : Nat → Int64) (c_this_size : Int32) (x1 : Int32) (x2 : Int32) (post : Int32 → (Nat → Int32) → (Nat → Int64) → Prop) (hw : wp_X3_kneeBy c_this_ideals c_this_scales c_this_scores c_this_size x1 x2 post) : MetI l yX3_kneeBy wsX3_kneeBy rm_X3_kneeBy (dC, dI) cI cJ cZ cG [.ref a_this, .int x1, .int x2] sz [(a_this, .inr (3, [.ref a_this_scores, .ref a_this_points, .ref a_this_counts, .int c_this_size, .ref a_this_ideals, .ref a_this_scales])), (a_this_ideals, .inl (cI, 4, .inl c_this_ideals)), (a_this_scales, .inl (cJ, 4, .inr (.inl c_this_scales))), (a_this_scores, .inl (cJ, 2000, .inr (.inl c_this_scores)))] (fun (r : Int32) (u : (Nat → Int32) × (Nat → Int64)) => post r (u.1) (u.2)) (fun u => [(a_this, .inr (3, [.ref a_this_scores, .ref a_this_points, .ref a_this_counts, .int c_this_size, .ref a_this_ideals, .ref a_this_scales])), (a_this_ideals, .inl (cI, 4, .inl (u.1))), (a_this_scales, .inl (cJ, 4, .inr (.inl (u.2)))), (a_this_scores, .inl (cJ, 2000, .inr (.inl c_this_scores)))]) := by
  refine met_i (ty := .int) (Or.inl rfl) (cc := cX3_kneeBy) (maxL := 12) (by decide) rfl (Nat.le_of_ble_eq_true rfl) ?_
  intro p e s m args below meth c A Q H locs ls K hG hl hret
  have hl : lv_has ls 12 [(0, .ref a_this), (1, .int x1), (2, .int x2)] := hl
  have hin_RX3 : ∀ w ∈ u_ws RX3 TX3 6, w ∈ wsX3_kneeBy := by decide +kernel
  unfold wp_X3_kneeBy at hw
  refine lv_aload_n K.1 K.2.1 dX3_kneeBy_0 rfl (lv_at hl 0 rfl) ?_
  refine lv_iload_n K.1 K.2.1 dX3_kneeBy_1 rfl (lv_at hl 2 rfl) ?_
  refine g_nv (w2 := (fun u => [(a_this, .inr (3, [.ref a_this_scores, .ref a_this_points, .ref a_this_counts, .int c_this_size, .ref a_this_ideals, .ref a_this_scales])), (a_this_ideals, .inl (cI, 4, .inl (u.1))), (a_this_scales, .inl (cJ, 4, .inr (.inl (u.2)))), (a_this_scores, .inl (cJ, 2000, .inr (.inl c_this_scores)))])) (wr := []) K hG [0, 1, 2, 3] [] 4 rfl (g_runV (As := [.int x2]) (rest := []) K hG hl [0, 1, 2, 3] rfl rfl 0 rfl rfl (k_X3_measure l dC dI cI cJ cZ cG H.size a_this a_this_scores a_this_points a_this_counts a_this_ideals a_this_scales c_this_ideals c_this_scales c_this_scores c_this_size x2 _ hw) (cwV 1 K.2.2.2.2.1 gX3_kneeBy_X3_measure rfl rfl rfl (by decide +kernel) ⟨by decide, by decide⟩) rfl rfl (Nat.le_of_ble_eq_true rfl) ⟨Nat.zero_le _, Nat.zero_le _⟩ dX3_kneeBy_2) (fun _ => rfl) (fun _ => rfl) rfl (fun _ => rfl) (fun _ => rfl) (by decide) (by decide) (by decide) (fun u H locs hw hG => ?_)
  obtain ⟨c_this_ideals_2, c_this_scales_2⟩ := u
  have hG : HW (dC, dI) A s.heap [(a_this, .inr (3, [.ref a_this_scores, .ref a_this_points, .ref a_this_counts, .int c_this_size, .ref a_this_ideals, .ref a_this_scales])), (a_this_ideals, .inl (cI, 4, .inl c_this_ideals_2)), (a_this_scales, .inl (cJ, 4, .inr (.inl c_this_scales_2))), (a_this_scores, .inl (cJ, 2000, .inr (.inl c_this_scores)))] H locs := hG
  refine lv_iconst (v := 0) K.1 K.2.1 dX3_kneeBy_5 (by decide) ?_
  refine lv_istore_n (lv' := [(3, .int (0 : Int32)), (0, .ref a_this), (1, .int x1), (2, .int x2)]) K.1 K.2.1 dX3_kneeBy_6 rfl hl (by decide) rfl (fun ls hl => ?_)
  refine lv_ldc2 (v := 9223372036854775807) K.1 K.2.1 K.2.2.2.1 (K.2.2.2.2.1 (.constantLong RX3 85 (9223372036854775807)) (by decide +kernel)) dX3_kneeBy_7 ?_
  refine lv_lstore (lv' := [(4, .long (9223372036854775807 : Int64)), (3, .int (0 : Int32)), (0, .ref a_this), (1, .int x1), (2, .int x2)]) K.1 K.2.1 dX3_kneeBy_10 hl (by decide) rfl (fun ls hl => ?_)
  refine lv_iconst (v := 0) K.1 K.2.1 dX3_kneeBy_12 (by decide) ?_
  refine lv_istore (lv' := [(6, .int (0 : Int32)), (4, .long (9223372036854775807 : Int64)), (3, .int (0 : Int32)), (0, .ref a_this), (1, .int x1), (2, .int x2)]) K.1 K.2.1 dX3_kneeBy_13 hl (by decide) rfl (fun ls hl => ?_)
  obtain ⟨kx_15, hkx_15, n_15, hw⟩ := Lx1_3_abs hw
  have hX_15 : ∀ (v3_15e : Int32) (H : Heap) (locs : List Loc) (ls : Array Slot), kx_15 v3_15e → HW (dC, dI) A s.heap [(a_this, .inr (3, [.ref a_this_scores, .ref a_this_points, .ref a_this_counts, .int c_this_size, .ref a_this_ideals, .ref a_this_scales])), (a_this_ideals, .inl (cI, 4, .inl c_this_ideals_2)), (a_this_scales, .inl (cJ, 4, .inr (.inl c_this_scales_2))), (a_this_scores, .inl (cJ, 2000, .inr (.inl c_this_scores)))] H locs → lv_has ls 12 [(3, .int v3_15e)] → W p l e rm_X3_kneeBy s m args below meth c H locs 0 0 Q (F0 m 111 ls []) := by
    intro v3_15e H locs ls hw hG hl
    have hw := hkx_15 _ hw
    refine lv_iload_n K.1 K.2.1 dX3_kneeBy_111 rfl (lv_at hl 0 rfl) ?_
    exact hret v3_15e (c_this_ideals_2, c_this_scales_2) H locs _ ls dX3_kneeBy_112 rfl hw hG
  have hL_15 : ∀ (n : Nat), ∀ (v3_15 : Int32) (v4_15 : Int64) (v6_15 : Int32) (H : Heap) (locs : List Loc) (ls : Array Slot), Lp3 (b_X3_kneeBy_15 c_this_size c_this_scores x1 x2 c_this_ideals_2 c_this_scales_2 kx_15) n v3_15 v4_15 v6_15 → HW (dC, dI) A s.heap [(a_this, .inr (3, [.ref a_this_scores, .ref a_this_points, .ref a_this_counts, .int c_this_size, .ref a_this_ideals, .ref a_this_scales])), (a_this_ideals, .inl (cI, 4, .inl c_this_ideals_2)), (a_this_scales, .inl (cJ, 4, .inr (.inl c_this_scales_2))), (a_this_scores, .inl (cJ, 2000, .inr (.inl c_this_scores)))] H locs → lv_has ls 12 [(0, .ref a_this), (1, .int x1), (2, .int x2), (3, .int v3_15), (4, .long v4_15), (6, .int v6_15)] → W p l e rm_X3_kneeBy s m args below meth c H locs 0 0 Q (F0 m 15 ls []) := by
    intro n
    induction n with
    | zero => intro v3_15 v4_15 v6_15 H locs ls hw; exact False.elim hw
    | succ n ih_15 =>
      intro v3_15 v4_15 v6_15 H locs ls hw hG hl
      obtain ⟨w_15, hw_15, hw⟩ : ∃ w' : Int32 → Int64 → Int32 → Prop, (∀ v3_15 v4_15 v6_15, w' v3_15 v4_15 v6_15 → Lp3 (b_X3_kneeBy_15 c_this_size c_this_scores x1 x2 c_this_ideals_2 c_this_scales_2 kx_15) n v3_15 v4_15 v6_15) ∧ b_X3_kneeBy_15 c_this_size c_this_scores x1 x2 c_this_ideals_2 c_this_scales_2 kx_15 w' v3_15 v4_15 v6_15 := ⟨_, fun _ _ _ h => h, hw⟩
      replace ih_15 : ∀ (v3_15 : Int32) (v4_15 : Int64) (v6_15 : Int32) (H : Heap) (locs : List Loc) (ls : Array Slot), w_15 v3_15 v4_15 v6_15 → HW (dC, dI) A s.heap [(a_this, .inr (3, [.ref a_this_scores, .ref a_this_points, .ref a_this_counts, .int c_this_size, .ref a_this_ideals, .ref a_this_scales])), (a_this_ideals, .inl (cI, 4, .inl c_this_ideals_2)), (a_this_scales, .inl (cJ, 4, .inr (.inl c_this_scales_2))), (a_this_scores, .inl (cJ, 2000, .inr (.inl c_this_scores)))] H locs → lv_has ls 12 [(0, .ref a_this), (1, .int x1), (2, .int x2), (3, .int v3_15), (4, .long v4_15), (6, .int v6_15)] → W p l e rm_X3_kneeBy s m args below meth c H locs 0 0 Q (F0 m 15 ls []) := fun v3_15 v4_15 v6_15 H locs ls h => ih_15 v3_15 v4_15 v6_15 H locs ls (hw_15 _ _ _ h)
      unfold b_X3_kneeBy_15 at hw
      refine lv_iload K.1 K.2.1 dX3_kneeBy_15 (lv_at hl 5 rfl) ?_
      refine lv_aload_n K.1 K.2.1 dX3_kneeBy_17 rfl (lv_at hl 0 rfl) ?_
      refine g_get (v := .int c_this_size) K hG hin_RX3 0 rfl rfl 3 (by decide) (K.2.2.2.2.1 (.fieldLink RX3 32 "AimFronts$Front" "size" "I") (by decide +kernel)) rfl rfl dX3_kneeBy_18 ?_
      refine lv_icmp_ge (tgt := 111) K.1 K.2.1 dX3_kneeBy_21 (by decide) (fun q_21 => ?_) (fun q_21 => ?_)
      · have hw := hw.1 q_21
        exact hX_15 v3_15 H locs ls hw hG (lv_sub hl [3] rfl)
      · have hw := hw.2 q_21
        refine lv_lconst (v := 0) K.1 K.2.1 dX3_kneeBy_24 (by decide) ?_
        refine lv_lstore (lv' := [(7, .long (0 : Int64)), (0, .ref a_this), (1, .int x1), (2, .int x2), (3, .int v3_15), (4, .long v4_15), (6, .int v6_15)]) K.1 K.2.1 dX3_kneeBy_25 hl (by decide) rfl (fun ls hl => ?_)
        refine lv_iconst (v := 0) K.1 K.2.1 dX3_kneeBy_27 (by decide) ?_
        refine lv_istore (lv' := [(9, .int (0 : Int32)), (7, .long (0 : Int64)), (0, .ref a_this), (1, .int x1), (2, .int x2), (3, .int v3_15), (4, .long v4_15), (6, .int v6_15)]) K.1 K.2.1 dX3_kneeBy_28 hl (by decide) rfl (fun ls hl => ?_)
        obtain ⟨kx_30, hkx_30, n_30, hw⟩ := Lx1_2_abs hw
        have hX_30 : ∀ (v7_30e : Int64) (H : Heap) (locs : List Loc) (ls : Array Slot), kx_30 v7_30e → HW (dC, dI) A s.heap [(a_this, .inr (3, [.ref a_this_scores, .ref a_this_points, .ref a_this_counts, .int c_this_size, .ref a_this_ideals, .ref a_this_scales])), (a_this_ideals, .inl (cI, 4, .inl c_this_ideals_2)), (a_this_scales, .inl (cJ, 4, .inr (.inl c_this_scales_2))), (a_this_scores, .inl (cJ, 2000, .inr (.inl c_this_scores)))] H locs → lv_has ls 12 [(0, .ref a_this), (1, .int x1), (2, .int x2), (3, .int v3_15), (4, .long v4_15), (6, .int v6_15), (7, .long v7_30e)] → W p l e rm_X3_kneeBy s m args below meth c H locs 0 0 Q (F0 m 90 ls []) := by
          intro v7_30e H locs ls hw hG hl
          have hw := hkx_30 _ hw
          refine lv_lload K.1 K.2.1 dX3_kneeBy_90 (lv_at hl 6 rfl) ?_
          refine lv_lload K.1 K.2.1 dX3_kneeBy_92 (lv_at hl 4 rfl) ?_
          refine W.lcmp K.1 K.2.1 dX3_kneeBy_94 ?_
          refine lv_if_ge (tgt := 105) K.1 K.2.1 dX3_kneeBy_95 (by decide) (fun q_95 => ?_) (fun q_95 => ?_)
          · have hw := hw.1 ((lg_cmp_ge _ _).mp q_95)
            refine lv_iinc (v := (v6_15 + (1 : Int32))) (lv' := [(6, .int (v6_15 + (1 : Int32))), (0, .ref a_this), (1, .int x1), (2, .int x2), (3, .int v3_15), (4, .long v4_15), (7, .long v7_30e)]) K.1 K.2.1 dX3_kneeBy_105 hl (k := 5) rfl rfl (by decide) rfl (fun ls hl => ?_)
            refine lv_goto (tgt := 15) K.1 K.2.1 dX3_kneeBy_108 (by decide) ?_
            exact ih_15 v3_15 v4_15 (v6_15 + (1 : Int32)) H locs ls hw hG (lv_sub hl [1, 2, 3, 4, 5, 0] rfl)
          · have hw := hw.2 (fun h9 => q_95 ((lg_cmp_ge _ _).mpr h9))
            refine lv_iload K.1 K.2.1 dX3_kneeBy_98 (lv_at hl 5 rfl) ?_
            refine lv_istore_n (lv' := [(3, .int v6_15), (0, .ref a_this), (1, .int x1), (2, .int x2), (4, .long v4_15), (6, .int v6_15), (7, .long v7_30e)]) K.1 K.2.1 dX3_kneeBy_100 rfl hl (by decide) rfl (fun ls hl => ?_)
            refine lv_lload K.1 K.2.1 dX3_kneeBy_101 (lv_at hl 6 rfl) ?_
            refine lv_lstore (lv' := [(4, .long v7_30e), (3, .int v6_15), (0, .ref a_this), (1, .int x1), (2, .int x2), (6, .int v6_15), (7, .long v7_30e)]) K.1 K.2.1 dX3_kneeBy_103 hl (by decide) rfl (fun ls hl => ?_)
            refine lv_iinc (v := (v6_15 + (1 : Int32))) (lv' := [(6, .int (v6_15 + (1 : Int32))), (4, .long v7_30e), (3, .int v6_15), (0, .ref a_this), (1, .int x1), (2, .int x2), (7, .long v7_30e)]) K.1 K.2.1 dX3_kneeBy_105 hl (k := 5) rfl rfl (by decide) rfl (fun ls hl => ?_)
            refine lv_goto (tgt := 15) K.1 K.2.1 dX3_kneeBy_108 (by decide) ?_
            exact ih_15 v6_15 v7_30e (v6_15 + (1 : Int32)) H locs ls hw hG (lv_sub hl [3, 4, 5, 2, 1, 0] rfl)
        have hL_30 : ∀ (n : Nat), ∀ (v7_30 : Int64) (v9_30 : Int32) (H : Heap) (locs : List Loc) (ls : Array Slot), Lp2 (b_X3_kneeBy_30 c_this_scores x1 x2 c_this_ideals_2 c_this_scales_2 v6_15 kx_30) n v7_30 v9_30 → HW (dC, dI) A s.heap [(a_this, .inr (3, [.ref a_this_scores, .ref a_this_points, .ref a_this_counts, .int c_this_size, .ref a_this_ideals, .ref a_this_scales])), (a_this_ideals, .inl (cI, 4, .inl c_this_ideals_2)), (a_this_scales, .inl (cJ, 4, .inr (.inl c_this_scales_2))), (a_this_scores, .inl (cJ, 2000, .inr (.inl c_this_scores)))] H locs → lv_has ls 12 [(0, .ref a_this), (1, .int x1), (2, .int x2), (3, .int v3_15), (4, .long v4_15), (6, .int v6_15), (7, .long v7_30), (9, .int v9_30)] → W p l e rm_X3_kneeBy s m args below meth c H locs 0 0 Q (F0 m 30 ls []) := by
          intro n
          induction n with
          | zero => intro v7_30 v9_30 H locs ls hw; exact False.elim hw
          | succ n ih_30 =>
            intro v7_30 v9_30 H locs ls hw hG hl
            obtain ⟨w_30, hw_30, hw⟩ : ∃ w' : Int64 → Int32 → Prop, (∀ v7_30 v9_30, w' v7_30 v9_30 → Lp2 (b_X3_kneeBy_30 c_this_scores x1 x2 c_this_ideals_2 c_this_scales_2 v6_15 kx_30) n v7_30 v9_30) ∧ b_X3_kneeBy_30 c_this_scores x1 x2 c_this_ideals_2 c_this_scales_2 v6_15 kx_30 w' v7_30 v9_30 := ⟨_, fun _ _ h => h, hw⟩
            replace ih_30 : ∀ (v7_30 : Int64) (v9_30 : Int32) (H : Heap) (locs : List Loc) (ls : Array Slot), w_30 v7_30 v9_30 → HW (dC, dI) A s.heap [(a_this, .inr (3, [.ref a_this_scores, .ref a_this_points, .ref a_this_counts, .int c_this_size, .ref a_this_ideals, .ref a_this_scales])), (a_this_ideals, .inl (cI, 4, .inl c_this_ideals_2)), (a_this_scales, .inl (cJ, 4, .inr (.inl c_this_scales_2))), (a_this_scores, .inl (cJ, 2000, .inr (.inl c_this_scores)))] H locs → lv_has ls 12 [(0, .ref a_this), (1, .int x1), (2, .int x2), (3, .int v3_15), (4, .long v4_15), (6, .int v6_15), (7, .long v7_30), (9, .int v9_30)] → W p l e rm_X3_kneeBy s m args below meth c H locs 0 0 Q (F0 m 30 ls []) := fun v7_30 v9_30 H locs ls h => ih_30 v7_30 v9_30 H locs ls (hw_30 _ _ h)
            unfold b_X3_kneeBy_30 at hw
            refine lv_iload K.1 K.2.1 dX3_kneeBy_30 (lv_at hl 7 rfl) ?_
            refine lv_iload_n K.1 K.2.1 dX3_kneeBy_32 rfl (lv_at hl 2 rfl) ?_
            refine lv_icmp_ge (tgt := 90) K.1 K.2.1 dX3_kneeBy_33 (by decide) (fun q_33 => ?_) (fun q_33 => ?_)
            · have hw := hw.1 q_33
              exact hX_30 v7_30 H locs ls hw hG (lv_sub hl [0, 1, 2, 3, 4, 5, 6] rfl)
            · have hw := hw.2 q_33
              refine lv_aload_n K.1 K.2.1 dX3_kneeBy_36 rfl (lv_at hl 0 rfl) ?_
              refine lv_iload K.1 K.2.1 dX3_kneeBy_37 (lv_at hl 5 rfl) ?_
              refine lv_iload K.1 K.2.1 dX3_kneeBy_39 (lv_at hl 7 rfl) ?_
              refine g_ri K hG [0, 3] rfl (g_runV (As := [.int v6_15, .int v9_30]) (rest := []) K hG hl [0, 3] rfl rfl 0 rfl rfl (k_X3_number l dC dI cI cJ cZ cG H.size a_this a_this_scores a_this_points a_this_counts a_this_ideals a_this_scales c_this_scores c_this_size v6_15 v9_30 _ hw) (cwV 2 K.2.2.2.2.1 gX3_kneeBy_X3_number rfl rfl rfl (by decide +kernel) ⟨by decide, by decide⟩) rfl rfl (Nat.le_of_ble_eq_true rfl) ⟨Nat.zero_le _, Nat.zero_le _⟩ dX3_kneeBy_41) (fun r_41 H locs hw hG => ?_)
              refine lv_aload_n K.1 K.2.1 dX3_kneeBy_44 rfl (lv_at hl 0 rfl) ?_
              refine g_get (v := .ref a_this_ideals) K hG hin_RX3 0 rfl rfl 4 (by decide) (K.2.2.2.2.1 (.fieldLink RX3 22 "AimFronts$Front" "ideals" "[I") (by decide +kernel)) rfl rfl dX3_kneeBy_45 ?_
              refine lv_iload K.1 K.2.1 dX3_kneeBy_48 (lv_at hl 7 rfl) ?_
              obtain ⟨h_50, hw⟩ := hw
              refine g_iald K hG 1 rfl h_50 dX3_kneeBy_50 ?_
              refine lv_isub K.1 K.2.1 dX3_kneeBy_51 ?_
              refine lv_i2l K.1 K.2.1 dX3_kneeBy_52 rfl ?_
              refine lv_aload_n K.1 K.2.1 dX3_kneeBy_53 rfl (lv_at hl 0 rfl) ?_
              refine g_get (v := .ref a_this_scales) K hG hin_RX3 0 rfl rfl 5 (by decide) (K.2.2.2.2.1 (.fieldLink RX3 25 "AimFronts$Front" "scales" "[J") (by decide +kernel)) rfl rfl dX3_kneeBy_54 ?_
              refine lv_iload K.1 K.2.1 dX3_kneeBy_57 (lv_at hl 7 rfl) ?_
              obtain ⟨h_59, hw⟩ := hw
              refine g_lald K hG 2 rfl h_59 dX3_kneeBy_59 ?_
              refine lv_lmul K.1 K.2.1 dX3_kneeBy_60 ?_
              refine lv_lstore (lv' := [(10, .long ((((r_41 - (c_this_ideals_2 (v9_30).toNatClampNeg))).toInt64) * (c_this_scales_2 (v9_30).toNatClampNeg))), (0, .ref a_this), (1, .int x1), (2, .int x2), (3, .int v3_15), (4, .long v4_15), (6, .int v6_15), (7, .long v7_30), (9, .int v9_30)]) K.1 K.2.1 dX3_kneeBy_61 hl (by decide) rfl (fun ls hl => ?_)
              refine lv_iload_n K.1 K.2.1 dX3_kneeBy_63 rfl (lv_at hl 2 rfl) ?_
              refine lv_if_ne (tgt := 75) K.1 K.2.1 dX3_kneeBy_64 (by decide) (fun q_64 => ?_) (fun q_64 => ?_)
              · have hw := hw.2 q_64
                refine lv_lload K.1 K.2.1 dX3_kneeBy_75 (lv_at hl 7 rfl) ?_
                refine lv_lload K.1 K.2.1 dX3_kneeBy_77 (lv_at hl 0 rfl) ?_
                refine va_mmax_long K.1 K.2.1 (K.2.2.1.trans hl.1.symm) K.2.2.2.1 (K.2.2.2.2.1 (.methodLink RX3 87 Lib.MathLoose.max_long.x) (by decide +kernel)) (K.2.2.2.2.1 (.static Lib.MathLoose.max_long.x) (by decide +kernel)) (K.2.2.2.2.1 (.initialized "java/lang/Math") (by decide +kernel)) (K.2.2.2.2.1 (.code Lib.MathLoose.max_long.x Lib.MathLoose.max_long.code 4 (some .long)) (by decide +kernel)) (Nat.le_of_ble_eq_true rfl) (Nat.le_of_ble_eq_true rfl) (Nat.zero_le _) (Nat.zero_le _) dX3_kneeBy_79 ?_
                refine lv_lstore (lv' := [(7, .long (if ((((r_41 - (c_this_ideals_2 (v9_30).toNatClampNeg))).toInt64) * (c_this_scales_2 (v9_30).toNatClampNeg)) < v7_30 then v7_30 else ((((r_41 - (c_this_ideals_2 (v9_30).toNatClampNeg))).toInt64) * (c_this_scales_2 (v9_30).toNatClampNeg)))), (10, .long ((((r_41 - (c_this_ideals_2 (v9_30).toNatClampNeg))).toInt64) * (c_this_scales_2 (v9_30).toNatClampNeg))), (0, .ref a_this), (1, .int x1), (2, .int x2), (3, .int v3_15), (4, .long v4_15), (6, .int v6_15), (9, .int v9_30)]) K.1 K.2.1 dX3_kneeBy_82 hl (by decide) rfl (fun ls hl => ?_)
                refine lv_iinc (v := (v9_30 + (1 : Int32))) (lv' := [(9, .int (v9_30 + (1 : Int32))), (7, .long (if ((((r_41 - (c_this_ideals_2 (v9_30).toNatClampNeg))).toInt64) * (c_this_scales_2 (v9_30).toNatClampNeg)) < v7_30 then v7_30 else ((((r_41 - (c_this_ideals_2 (v9_30).toNatClampNeg))).toInt64) * (c_this_scales_2 (v9_30).toNatClampNeg)))), (10, .long ((((r_41 - (c_this_ideals_2 (v9_30).toNatClampNeg))).toInt64) * (c_this_scales_2 (v9_30).toNatClampNeg))), (0, .ref a_this), (1, .int x1), (2, .int x2), (3, .int v3_15), (4, .long v4_15), (6, .int v6_15)]) K.1 K.2.1 dX3_kneeBy_84 hl (k := 8) rfl rfl (by decide) rfl (fun ls hl => ?_)
                refine lv_goto (tgt := 30) K.1 K.2.1 dX3_kneeBy_87 (by decide) ?_
                exact ih_30 (if ((((r_41 - (c_this_ideals_2 (v9_30).toNatClampNeg))).toInt64) * (c_this_scales_2 (v9_30).toNatClampNeg)) < v7_30 then v7_30 else ((((r_41 - (c_this_ideals_2 (v9_30).toNatClampNeg))).toInt64) * (c_this_scales_2 (v9_30).toNatClampNeg))) (v9_30 + (1 : Int32)) H locs ls hw hG (lv_sub hl [3, 4, 5, 6, 7, 8, 1, 0] rfl)
              · have hw := hw.1 q_64
                refine lv_lload K.1 K.2.1 dX3_kneeBy_67 (lv_at hl 7 rfl) ?_
                refine lv_lload K.1 K.2.1 dX3_kneeBy_69 (lv_at hl 0 rfl) ?_
                refine lv_ladd K.1 K.2.1 dX3_kneeBy_71 ?_
                refine lv_goto (tgt := 82) K.1 K.2.1 dX3_kneeBy_72 (by decide) ?_
                refine lv_lstore (lv' := [(7, .long (v7_30 + ((((r_41 - (c_this_ideals_2 (v9_30).toNatClampNeg))).toInt64) * (c_this_scales_2 (v9_30).toNatClampNeg)))), (10, .long ((((r_41 - (c_this_ideals_2 (v9_30).toNatClampNeg))).toInt64) * (c_this_scales_2 (v9_30).toNatClampNeg))), (0, .ref a_this), (1, .int x1), (2, .int x2), (3, .int v3_15), (4, .long v4_15), (6, .int v6_15), (9, .int v9_30)]) K.1 K.2.1 dX3_kneeBy_82 hl (by decide) rfl (fun ls hl => ?_)
                refine lv_iinc (v := (v9_30 + (1 : Int32))) (lv' := [(9, .int (v9_30 + (1 : Int32))), (7, .long (v7_30 + ((((r_41 - (c_this_ideals_2 (v9_30).toNatClampNeg))).toInt64) * (c_this_scales_2 (v9_30).toNatClampNeg)))), (10, .long ((((r_41 - (c_this_ideals_2 (v9_30).toNatClampNeg))).toInt64) * (c_this_scales_2 (v9_30).toNatClampNeg))), (0, .ref a_this), (1, .int x1), (2, .int x2), (3, .int v3_15), (4, .long v4_15), (6, .int v6_15)]) K.1 K.2.1 dX3_kneeBy_84 hl (k := 8) rfl rfl (by decide) rfl (fun ls hl => ?_)
                refine lv_goto (tgt := 30) K.1 K.2.1 dX3_kneeBy_87 (by decide) ?_
                exact ih_30 (v7_30 + ((((r_41 - (c_this_ideals_2 (v9_30).toNatClampNeg))).toInt64) * (c_this_scales_2 (v9_30).toNatClampNeg))) (v9_30 + (1 : Int32)) H locs ls hw hG (lv_sub hl [3, 4, 5, 6, 7, 8, 1, 0] rfl)
        exact hL_30 n_30 (0 : Int64) (0 : Int32) H locs ls hw hG (lv_sub hl [2, 3, 4, 5, 6, 7, 1, 0] rfl)
  exact hL_15 n_15 (0 : Int32) (9223372036854775807 : Int64) (0 : Int32) H locs ls hw hG (lv_sub hl [3, 4, 5, 2, 1, 0] rfl)
abbrev rm_X6_knee : Room := { frames := 6, cells := 0, slots := 0, locals := 142 }
set_option maxHeartbeats 4000000 in
set_option maxRecDepth 100000 in
theorem k_X6_knee (l : Launch) (dC : Nat → ClassId) (dI : Nat → Nat → Nat) (cI cJ cZ cG : ClassId) (sz : Nat) (a_this a_this_task a_this_front a_this_cover a_this_behind a_this_climber a_this_numbers a_this_asked a_this_front_scores a_this_front_points a_this_front_counts a_this_front_ideals a_this_front_scales a_this_task_low a_this_task_high a_this_task_right a_this_task_terms a_this_task_from a_this_task_to a_this_task_costs : Nat) (c_this_front_ideals : Nat → Int32) (c_this_front_scales : Nat → Int64) (c_this_front_scores : Nat → Int64) (c_this_front_size : Int32) (c_this_gone : Int32) (c_this_met : Int32) (c_this_task_aims : Int32) (c_this_task_columns : Int32) (c_this_task_points : Int32) (c_this_task_rows : Int32) (x1 : Int32) (post : Int32 → (Nat → Int32) → (Nat → Int64) → Prop) (hw : wp_X6_knee c_this_front_ideals c_this_front_scales c_this_front_scores c_this_front_size c_this_task_aims x1 post) : MetI l yX6_knee wsX6_knee rm_X6_knee (dC, dI) cI cJ cZ cG [.ref a_this, .int x1] sz [(a_this, .inr (5, [.ref a_this_task, .ref a_this_front, .ref a_this_cover, .ref a_this_behind, .ref a_this_climber, .ref a_this_numbers, .ref a_this_asked, .int c_this_gone, .int c_this_met])), (a_this_front, .inr (3, [.ref a_this_front_scores, .ref a_this_front_points, .ref a_this_front_counts, .int c_this_front_size, .ref a_this_front_ideals, .ref a_this_front_scales])), (a_this_front_ideals, .inl (cI, 4, .inl c_this_front_ideals)), (a_this_front_scales, .inl (cJ, 4, .inr (.inl c_this_front_scales))), (a_this_front_scores, .inl (cJ, 2000, .inr (.inl c_this_front_scores))), (a_this_task, .inr (4, [.ref a_this_task_low, .ref a_this_task_high, .ref a_this_task_right, .ref a_this_task_terms, .ref a_this_task_from, .ref a_this_task_to, .ref a_this_task_costs, .int c_this_task_columns, .int c_this_task_rows, .int c_this_task_aims, .int c_this_task_points]))] (fun (r : Int32) (u : (Nat → Int32) × (Nat → Int64)) => post r (u.1) (u.2)) (fun u => [(a_this, .inr (5, [.ref a_this_task, .ref a_this_front, .ref a_this_cover, .ref a_this_behind, .ref a_this_climber, .ref a_this_numbers, .ref a_this_asked, .int c_this_gone, .int c_this_met])), (a_this_front, .inr (3, [.ref a_this_front_scores, .ref a_this_front_points, .ref a_this_front_counts, .int c_this_front_size, .ref a_this_front_ideals, .ref a_this_front_scales])), (a_this_front_ideals, .inl (cI, 4, .inl (u.1))), (a_this_front_scales, .inl (cJ, 4, .inr (.inl (u.2)))), (a_this_front_scores, .inl (cJ, 2000, .inr (.inl c_this_front_scores))), (a_this_task, .inr (4, [.ref a_this_task_low, .ref a_this_task_high, .ref a_this_task_right, .ref a_this_task_terms, .ref a_this_task_from, .ref a_this_task_to, .ref a_this_task_costs, .int c_this_task_columns, .int c_this_task_rows, .int c_this_task_aims, .int c_this_task_points]))]) := by
  refine met_i (ty := .int) (Or.inl rfl) (cc := cX6_knee) (maxL := 2) (by decide) rfl (Nat.le_of_ble_eq_true rfl) ?_
  intro p e s m args below meth c A Q H locs ls K hG hl hret
  have hl : lv_has ls 2 [(0, .ref a_this), (1, .int x1)] := hl
  have hin_RX3 : ∀ w ∈ u_ws RX3 TX3 6, w ∈ wsX6_knee := by decide +kernel
  have hin_RX5 : ∀ w ∈ u_ws RX5 TX5 11, w ∈ wsX6_knee := by decide +kernel
  have hin_RX6 : ∀ w ∈ u_ws RX6 TX6 9, w ∈ wsX6_knee := by decide +kernel
  unfold wp_X6_knee at hw
  refine lv_iload_n K.1 K.2.1 dX6_knee_0 rfl (lv_at hl 1 rfl) ?_
  refine lv_iconst (v := 2) K.1 K.2.1 dX6_knee_1 (by decide) ?_
  refine g_ri K hG [] rfl (g_runS (As := [.int x1, .int (2 : Int32)]) (rest := []) K hG hl [] rfl rfl (k_X6_among l dC dI cI cJ cZ cG H.size x1 (2 : Int32) _ hw) (va_cwS 2 K.2.2.2.2.1 gX6_knee_X6_among rfl rfl rfl (by decide +kernel) ⟨by decide, by decide⟩) rfl rfl (Nat.le_of_ble_eq_true rfl) ⟨Nat.zero_le _, Nat.zero_le _⟩ dX6_knee_2) (fun r_2 H locs hw hG => ?_)
  refine lv_if_ne (tgt := 11) K.1 K.2.1 dX6_knee_5 (by decide) (fun q_5 => ?_) (fun q_5 => ?_)
  · have hw := hw.2 q_5
    refine lv_aload_n K.1 K.2.1 dX6_knee_11 rfl (lv_at hl 0 rfl) ?_
    refine g_get (v := .ref a_this_front) K hG hin_RX6 0 rfl rfl 1 (by decide) (K.2.2.2.2.1 (.fieldLink RX6 19 "AimFronts" "front" "LAimFronts$Front;") (by decide +kernel)) rfl rfl dX6_knee_12 ?_
    refine g_get (v := .int c_this_front_size) K hG hin_RX3 1 rfl rfl 3 (by decide) (K.2.2.2.2.1 (.fieldLink RX6 121 "AimFronts$Front" "size" "I") (by decide +kernel)) rfl rfl dX6_knee_15 ?_
    refine lv_if_ne (tgt := 26) K.1 K.2.1 dX6_knee_18 (by decide) (fun q_18 => ?_) (fun q_18 => ?_)
    · have hw := hw.2 q_18
      refine lv_aload_n K.1 K.2.1 dX6_knee_26 rfl (lv_at hl 0 rfl) ?_
      refine g_get (v := .ref a_this_front) K hG hin_RX6 0 rfl rfl 1 (by decide) (K.2.2.2.2.1 (.fieldLink RX6 19 "AimFronts" "front" "LAimFronts$Front;") (by decide +kernel)) rfl rfl dX6_knee_27 ?_
      refine lv_iload_n K.1 K.2.1 dX6_knee_30 rfl (lv_at hl 1 rfl) ?_
      refine lv_aload_n K.1 K.2.1 dX6_knee_31 rfl (lv_at hl 0 rfl) ?_
      refine g_get (v := .ref a_this_task) K hG hin_RX6 0 rfl rfl 0 (by decide) (K.2.2.2.2.1 (.fieldLink RX6 10 "AimFronts" "task" "LAimFronts$Task;") (by decide +kernel)) rfl rfl dX6_knee_32 ?_
      refine g_get (v := .int c_this_task_aims) K hG hin_RX5 5 rfl rfl 9 (by decide) (K.2.2.2.2.1 (.fieldLink RX6 85 "AimFronts$Task" "aims" "I") (by decide +kernel)) rfl rfl dX6_knee_35 ?_
      refine g_ni (w2 := (fun u => [(a_this, .inr (5, [.ref a_this_task, .ref a_this_front, .ref a_this_cover, .ref a_this_behind, .ref a_this_climber, .ref a_this_numbers, .ref a_this_asked, .int c_this_gone, .int c_this_met])), (a_this_front, .inr (3, [.ref a_this_front_scores, .ref a_this_front_points, .ref a_this_front_counts, .int c_this_front_size, .ref a_this_front_ideals, .ref a_this_front_scales])), (a_this_front_ideals, .inl (cI, 4, .inl (u.1))), (a_this_front_scales, .inl (cJ, 4, .inr (.inl (u.2)))), (a_this_front_scores, .inl (cJ, 2000, .inr (.inl c_this_front_scores))), (a_this_task, .inr (4, [.ref a_this_task_low, .ref a_this_task_high, .ref a_this_task_right, .ref a_this_task_terms, .ref a_this_task_from, .ref a_this_task_to, .ref a_this_task_costs, .int c_this_task_columns, .int c_this_task_rows, .int c_this_task_aims, .int c_this_task_points]))])) (wr := [(a_this, .inr (5, [.ref a_this_task, .ref a_this_front, .ref a_this_cover, .ref a_this_behind, .ref a_this_climber, .ref a_this_numbers, .ref a_this_asked, .int c_this_gone, .int c_this_met])), (a_this_task, .inr (4, [.ref a_this_task_low, .ref a_this_task_high, .ref a_this_task_right, .ref a_this_task_terms, .ref a_this_task_from, .ref a_this_task_to, .ref a_this_task_costs, .int c_this_task_columns, .int c_this_task_rows, .int c_this_task_aims, .int c_this_task_points]))]) K hG [1, 2, 3, 4] [0, 5] 6 rfl (g_runV (As := [.int x1, .int c_this_task_aims]) (rest := []) K hG hl [1, 2, 3, 4] rfl rfl 1 rfl rfl (k_X3_kneeBy l dC dI cI cJ cZ cG H.size a_this_front a_this_front_scores a_this_front_points a_this_front_counts a_this_front_ideals a_this_front_scales c_this_front_ideals c_this_front_scales c_this_front_scores c_this_front_size x1 c_this_task_aims _ hw) (cwV 2 K.2.2.2.2.1 gX6_knee_X3_kneeBy rfl rfl rfl (by decide +kernel) ⟨by decide, by decide⟩) rfl rfl (Nat.le_of_ble_eq_true rfl) ⟨Nat.zero_le _, Nat.zero_le _⟩ dX6_knee_38) (fun _ => rfl) (fun _ => rfl) rfl (fun _ => rfl) (fun _ => rfl) (by decide) (by decide) (by decide) (fun r_38 u H locs hw hG => ?_)
      obtain ⟨c_this_front_ideals_38, c_this_front_scales_38⟩ := u
      have hG : HW (dC, dI) A s.heap [(a_this, .inr (5, [.ref a_this_task, .ref a_this_front, .ref a_this_cover, .ref a_this_behind, .ref a_this_climber, .ref a_this_numbers, .ref a_this_asked, .int c_this_gone, .int c_this_met])), (a_this_front, .inr (3, [.ref a_this_front_scores, .ref a_this_front_points, .ref a_this_front_counts, .int c_this_front_size, .ref a_this_front_ideals, .ref a_this_front_scales])), (a_this_front_ideals, .inl (cI, 4, .inl c_this_front_ideals_38)), (a_this_front_scales, .inl (cJ, 4, .inr (.inl c_this_front_scales_38))), (a_this_front_scores, .inl (cJ, 2000, .inr (.inl c_this_front_scores))), (a_this_task, .inr (4, [.ref a_this_task_low, .ref a_this_task_high, .ref a_this_task_right, .ref a_this_task_terms, .ref a_this_task_from, .ref a_this_task_to, .ref a_this_task_costs, .int c_this_task_columns, .int c_this_task_rows, .int c_this_task_aims, .int c_this_task_points]))] H locs := hG
      exact hret r_38 (c_this_front_ideals_38, c_this_front_scales_38) H locs _ ls dX6_knee_41 rfl hw hG
    · have hw := hw.1 q_18
      refine lv_ldc (v := -1000002) K.1 K.2.1 K.2.2.2.1 (K.2.2.2.2.1 (.constant RX6 104 (-1000002)) (by decide +kernel)) dX6_knee_21 ?_
      refine lv_goto (tgt := 41) K.1 K.2.1 dX6_knee_23 (by decide) ?_
      exact hret (-1000002 : Int32) (c_this_front_ideals, c_this_front_scales) H locs _ ls dX6_knee_41 rfl hw hG
  · have hw := hw.1 q_5
    refine lv_ldc (v := -1000001) K.1 K.2.1 K.2.2.2.1 (K.2.2.2.2.1 (.constant RX6 55 (-1000001)) (by decide +kernel)) dX6_knee_8 ?_
    exact hret (-1000001 : Int32) (c_this_front_ideals, c_this_front_scales) H locs _ ls dX6_knee_10 rfl hw hG

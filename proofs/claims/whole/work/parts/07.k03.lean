abbrev rm_X6_clear : Room := { frames := 2, cells := 0, slots := 0, locals := 47 }
set_option maxHeartbeats 4000000 in
set_option maxRecDepth 100000 in
theorem k_X6_clear (l : Launch) (dC : Nat → ClassId) (dI : Nat → Nat → Nat) (cI cJ cZ cG : ClassId) (sz : Nat) (a_this a_this_task a_this_front a_this_cover a_this_behind a_this_climber a_this_numbers a_this_asked a_this_behind_corners a_this_behind_levels a_this_behind_ends a_this_behind_chosen a_this_climber_place a_this_cover_picks a_this_cover_reach a_this_cover_covered a_this_front_scores a_this_front_points a_this_front_counts a_this_front_ideals a_this_front_scales a_this_task_low a_this_task_high a_this_task_right a_this_task_terms a_this_task_from a_this_task_to a_this_task_costs : Nat) (a_this_task_costs_r a_this_task_terms_r : Nat → Nat) (c_this_behind_content : Int64) (c_this_behind_last : Int32) (c_this_behind_ones : Int64) (c_this_behind_size : Int32) (c_this_behind_worked : Int32) (c_this_climber_hasClimbed : Int32) (c_this_cover_scores : Int32) (c_this_cover_size : Int32) (c_this_front_size : Int32) (c_this_gone : Int32) (c_this_met : Int32) (c_this_task_aims : Int32) (c_this_task_columns : Int32) (c_this_task_costs : Nat → Nat → Int32) (c_this_task_points : Int32) (c_this_task_rows : Int32) (c_this_task_terms : Nat → Nat → Int32) (post : Int32 → Int32 → Int32 → Int32 → Int32 → Int32 → Int32 → Int32 → Int32 → (Nat → Nat → Int32) → Int32 → Int32 → (Nat → Nat → Int32) → Prop) (hw : wp_X6_clear c_this_behind_worked c_this_climber_hasClimbed c_this_cover_size c_this_front_size c_this_gone c_this_met c_this_task_aims c_this_task_columns c_this_task_costs c_this_task_points c_this_task_rows c_this_task_terms post) : MetI l yX6_clear wsX6_clear rm_X6_clear (dC, dI) cI cJ cZ cG [.ref a_this] sz [(a_this, .inr (5, [.ref a_this_task, .ref a_this_front, .ref a_this_cover, .ref a_this_behind, .ref a_this_climber, .ref a_this_numbers, .ref a_this_asked, .int c_this_gone, .int c_this_met])), (a_this_behind, .inr (0, [.ref a_this_behind_corners, .int c_this_behind_size, .long c_this_behind_content, .int c_this_behind_worked, .ref a_this_behind_levels, .ref a_this_behind_ends, .ref a_this_behind_chosen, .int c_this_behind_last, .long c_this_behind_ones])), (a_this_climber, .inr (1, [.ref a_this_climber_place, .int c_this_climber_hasClimbed])), (a_this_cover, .inr (2, [.ref a_this_cover_picks, .ref a_this_cover_reach, .ref a_this_cover_covered, .int c_this_cover_scores, .int c_this_cover_size])), (a_this_front, .inr (3, [.ref a_this_front_scores, .ref a_this_front_points, .ref a_this_front_counts, .int c_this_front_size, .ref a_this_front_ideals, .ref a_this_front_scales])), (a_this_task, .inr (4, [.ref a_this_task_low, .ref a_this_task_high, .ref a_this_task_right, .ref a_this_task_terms, .ref a_this_task_from, .ref a_this_task_to, .ref a_this_task_costs, .int c_this_task_columns, .int c_this_task_rows, .int c_this_task_aims, .int c_this_task_points])), (a_this_task_costs, .inl (cG, 4, .inr (.inr (.inr (.inr (gro 4 a_this_task_costs_r)))))), (a_this_task_costs_r 0, .inl (cI, 8, .inl (c_this_task_costs 0))), (a_this_task_costs_r 1, .inl (cI, 8, .inl (c_this_task_costs 1))), (a_this_task_costs_r 2, .inl (cI, 8, .inl (c_this_task_costs 2))), (a_this_task_costs_r 3, .inl (cI, 8, .inl (c_this_task_costs 3))), (a_this_task_terms, .inl (cG, 8, .inr (.inr (.inr (.inr (gro 8 a_this_task_terms_r)))))), (a_this_task_terms_r 0, .inl (cI, 8, .inl (c_this_task_terms 0))), (a_this_task_terms_r 1, .inl (cI, 8, .inl (c_this_task_terms 1))), (a_this_task_terms_r 2, .inl (cI, 8, .inl (c_this_task_terms 2))), (a_this_task_terms_r 3, .inl (cI, 8, .inl (c_this_task_terms 3))), (a_this_task_terms_r 4, .inl (cI, 8, .inl (c_this_task_terms 4))), (a_this_task_terms_r 5, .inl (cI, 8, .inl (c_this_task_terms 5))), (a_this_task_terms_r 6, .inl (cI, 8, .inl (c_this_task_terms 6))), (a_this_task_terms_r 7, .inl (cI, 8, .inl (c_this_task_terms 7)))] (fun (r : Int32) (u : Int32 × Int32 × Int32 × Int32 × Int32 × Int32 × Int32 × Int32 × (Nat → Nat → Int32) × Int32 × Int32 × (Nat → Nat → Int32)) => post r (u.1) (u.2.1) (u.2.2.1) (u.2.2.2.1) (u.2.2.2.2.1) (u.2.2.2.2.2.1) (u.2.2.2.2.2.2.1) (u.2.2.2.2.2.2.2.1) (u.2.2.2.2.2.2.2.2.1) (u.2.2.2.2.2.2.2.2.2.1) (u.2.2.2.2.2.2.2.2.2.2.1) (u.2.2.2.2.2.2.2.2.2.2.2)) (fun u => [(a_this, .inr (5, [.ref a_this_task, .ref a_this_front, .ref a_this_cover, .ref a_this_behind, .ref a_this_climber, .ref a_this_numbers, .ref a_this_asked, .int (u.2.2.2.2.1), .int (u.2.2.2.2.2.1)])), (a_this_behind, .inr (0, [.ref a_this_behind_corners, .int c_this_behind_size, .long c_this_behind_content, .int (u.1), .ref a_this_behind_levels, .ref a_this_behind_ends, .ref a_this_behind_chosen, .int c_this_behind_last, .long c_this_behind_ones])), (a_this_climber, .inr (1, [.ref a_this_climber_place, .int (u.2.1)])), (a_this_cover, .inr (2, [.ref a_this_cover_picks, .ref a_this_cover_reach, .ref a_this_cover_covered, .int c_this_cover_scores, .int (u.2.2.1)])), (a_this_front, .inr (3, [.ref a_this_front_scores, .ref a_this_front_points, .ref a_this_front_counts, .int (u.2.2.2.1), .ref a_this_front_ideals, .ref a_this_front_scales])), (a_this_task, .inr (4, [.ref a_this_task_low, .ref a_this_task_high, .ref a_this_task_right, .ref a_this_task_terms, .ref a_this_task_from, .ref a_this_task_to, .ref a_this_task_costs, .int (u.2.2.2.2.2.2.2.1), .int (u.2.2.2.2.2.2.2.2.2.2.1), .int (u.2.2.2.2.2.2.1), .int (u.2.2.2.2.2.2.2.2.2.1)])), (a_this_task_costs, .inl (cG, 4, .inr (.inr (.inr (.inr (gro 4 a_this_task_costs_r)))))), (a_this_task_costs_r 0, .inl (cI, 8, .inl ((u.2.2.2.2.2.2.2.2.1) 0))), (a_this_task_costs_r 1, .inl (cI, 8, .inl ((u.2.2.2.2.2.2.2.2.1) 1))), (a_this_task_costs_r 2, .inl (cI, 8, .inl ((u.2.2.2.2.2.2.2.2.1) 2))), (a_this_task_costs_r 3, .inl (cI, 8, .inl ((u.2.2.2.2.2.2.2.2.1) 3))), (a_this_task_terms, .inl (cG, 8, .inr (.inr (.inr (.inr (gro 8 a_this_task_terms_r)))))), (a_this_task_terms_r 0, .inl (cI, 8, .inl ((u.2.2.2.2.2.2.2.2.2.2.2) 0))), (a_this_task_terms_r 1, .inl (cI, 8, .inl ((u.2.2.2.2.2.2.2.2.2.2.2) 1))), (a_this_task_terms_r 2, .inl (cI, 8, .inl ((u.2.2.2.2.2.2.2.2.2.2.2) 2))), (a_this_task_terms_r 3, .inl (cI, 8, .inl ((u.2.2.2.2.2.2.2.2.2.2.2) 3))), (a_this_task_terms_r 4, .inl (cI, 8, .inl ((u.2.2.2.2.2.2.2.2.2.2.2) 4))), (a_this_task_terms_r 5, .inl (cI, 8, .inl ((u.2.2.2.2.2.2.2.2.2.2.2) 5))), (a_this_task_terms_r 6, .inl (cI, 8, .inl ((u.2.2.2.2.2.2.2.2.2.2.2) 6))), (a_this_task_terms_r 7, .inl (cI, 8, .inl ((u.2.2.2.2.2.2.2.2.2.2.2) 7)))]) := by
  refine met_i (ty := .int) (Or.inl rfl) (cc := cX6_clear) (maxL := 2) (by decide) rfl (Nat.le_of_ble_eq_true rfl) ?_
  intro p e s m args below meth c A Q H locs ls K hG hl hret
  have hl : lv_has ls 2 [(0, .ref a_this)] := hl
  have hin_RX0 : ∀ w ∈ u_ws RX0 TX0 9, w ∈ wsX6_clear := by decide +kernel
  have hin_RX1 : ∀ w ∈ u_ws RX1 TX1 2, w ∈ wsX6_clear := by decide +kernel
  have hin_RX2 : ∀ w ∈ u_ws RX2 TX2 5, w ∈ wsX6_clear := by decide +kernel
  have hin_RX3 : ∀ w ∈ u_ws RX3 TX3 6, w ∈ wsX6_clear := by decide +kernel
  have hin_RX5 : ∀ w ∈ u_ws RX5 TX5 11, w ∈ wsX6_clear := by decide +kernel
  have hin_RX6 : ∀ w ∈ u_ws RX6 TX6 9, w ∈ wsX6_clear := by decide +kernel
  unfold wp_X6_clear at hw
  refine lv_aload_n K.1 K.2.1 dX6_clear_0 rfl (lv_at hl 0 rfl) ?_
  refine g_get (v := .ref a_this_task) K hG hin_RX6 0 rfl rfl 0 (by decide) (K.2.2.2.2.1 (.fieldLink RX6 10 "AimFronts" "task" "LAimFronts$Task;") (by decide +kernel)) rfl rfl dX6_clear_1 ?_
  refine g_get (v := .int c_this_task_columns) K hG hin_RX5 5 rfl rfl 7 (by decide) (K.2.2.2.2.1 (.fieldLink RX6 56 "AimFronts$Task" "columns" "I") (by decide +kernel)) rfl rfl dX6_clear_4 ?_
  refine lv_istore_n (lv' := [(1, .int c_this_task_columns), (0, .ref a_this)]) K.1 K.2.1 dX6_clear_7 rfl hl (by decide) rfl (fun ls hl => ?_)
  refine lv_aload_n K.1 K.2.1 dX6_clear_8 rfl (lv_at hl 1 rfl) ?_
  refine g_nv (w2 := (fun u => [(a_this, .inr (5, [.ref a_this_task, .ref a_this_front, .ref a_this_cover, .ref a_this_behind, .ref a_this_climber, .ref a_this_numbers, .ref a_this_asked, .int (u.2.2.2.2.1), .int (u.2.2.2.2.2)])), (a_this_behind, .inr (0, [.ref a_this_behind_corners, .int c_this_behind_size, .long c_this_behind_content, .int (u.1), .ref a_this_behind_levels, .ref a_this_behind_ends, .ref a_this_behind_chosen, .int c_this_behind_last, .long c_this_behind_ones])), (a_this_climber, .inr (1, [.ref a_this_climber_place, .int (u.2.1)])), (a_this_cover, .inr (2, [.ref a_this_cover_picks, .ref a_this_cover_reach, .ref a_this_cover_covered, .int c_this_cover_scores, .int (u.2.2.1)])), (a_this_front, .inr (3, [.ref a_this_front_scores, .ref a_this_front_points, .ref a_this_front_counts, .int (u.2.2.2.1), .ref a_this_front_ideals, .ref a_this_front_scales])), (a_this_task, .inr (4, [.ref a_this_task_low, .ref a_this_task_high, .ref a_this_task_right, .ref a_this_task_terms, .ref a_this_task_from, .ref a_this_task_to, .ref a_this_task_costs, .int c_this_task_columns, .int c_this_task_rows, .int c_this_task_aims, .int c_this_task_points])), (a_this_task_costs, .inl (cG, 4, .inr (.inr (.inr (.inr (gro 4 a_this_task_costs_r)))))), (a_this_task_costs_r 0, .inl (cI, 8, .inl (c_this_task_costs 0))), (a_this_task_costs_r 1, .inl (cI, 8, .inl (c_this_task_costs 1))), (a_this_task_costs_r 2, .inl (cI, 8, .inl (c_this_task_costs 2))), (a_this_task_costs_r 3, .inl (cI, 8, .inl (c_this_task_costs 3))), (a_this_task_terms, .inl (cG, 8, .inr (.inr (.inr (.inr (gro 8 a_this_task_terms_r)))))), (a_this_task_terms_r 0, .inl (cI, 8, .inl (c_this_task_terms 0))), (a_this_task_terms_r 1, .inl (cI, 8, .inl (c_this_task_terms 1))), (a_this_task_terms_r 2, .inl (cI, 8, .inl (c_this_task_terms 2))), (a_this_task_terms_r 3, .inl (cI, 8, .inl (c_this_task_terms 3))), (a_this_task_terms_r 4, .inl (cI, 8, .inl (c_this_task_terms 4))), (a_this_task_terms_r 5, .inl (cI, 8, .inl (c_this_task_terms 5))), (a_this_task_terms_r 6, .inl (cI, 8, .inl (c_this_task_terms 6))), (a_this_task_terms_r 7, .inl (cI, 8, .inl (c_this_task_terms 7)))])) (wr := [(a_this_task, .inr (4, [.ref a_this_task_low, .ref a_this_task_high, .ref a_this_task_right, .ref a_this_task_terms, .ref a_this_task_from, .ref a_this_task_to, .ref a_this_task_costs, .int c_this_task_columns, .int c_this_task_rows, .int c_this_task_aims, .int c_this_task_points])), (a_this_task_costs, .inl (cG, 4, .inr (.inr (.inr (.inr (gro 4 a_this_task_costs_r)))))), (a_this_task_costs_r 0, .inl (cI, 8, .inl (c_this_task_costs 0))), (a_this_task_costs_r 1, .inl (cI, 8, .inl (c_this_task_costs 1))), (a_this_task_costs_r 2, .inl (cI, 8, .inl (c_this_task_costs 2))), (a_this_task_costs_r 3, .inl (cI, 8, .inl (c_this_task_costs 3))), (a_this_task_terms, .inl (cG, 8, .inr (.inr (.inr (.inr (gro 8 a_this_task_terms_r)))))), (a_this_task_terms_r 0, .inl (cI, 8, .inl (c_this_task_terms 0))), (a_this_task_terms_r 1, .inl (cI, 8, .inl (c_this_task_terms 1))), (a_this_task_terms_r 2, .inl (cI, 8, .inl (c_this_task_terms 2))), (a_this_task_terms_r 3, .inl (cI, 8, .inl (c_this_task_terms 3))), (a_this_task_terms_r 4, .inl (cI, 8, .inl (c_this_task_terms 4))), (a_this_task_terms_r 5, .inl (cI, 8, .inl (c_this_task_terms 5))), (a_this_task_terms_r 6, .inl (cI, 8, .inl (c_this_task_terms 6))), (a_this_task_terms_r 7, .inl (cI, 8, .inl (c_this_task_terms 7)))]) K hG [0, 1, 2, 3, 4] [5, 6, 7, 8, 9, 10, 11, 12, 13, 14, 15, 16, 17, 18, 19] 20 rfl (g_runV (As := []) (rest := []) K hG hl [0, 1, 2, 3, 4] rfl rfl 0 rfl rfl (k_X6_beginAnew l dC dI cI cJ cZ cG H.size a_this a_this_task a_this_front a_this_cover a_this_behind a_this_climber a_this_numbers a_this_asked a_this_behind_corners a_this_behind_levels a_this_behind_ends a_this_behind_chosen a_this_climber_place a_this_cover_picks a_this_cover_reach a_this_cover_covered a_this_front_scores a_this_front_points a_this_front_counts a_this_front_ideals a_this_front_scales c_this_behind_content c_this_behind_last c_this_behind_ones c_this_behind_size c_this_behind_worked c_this_climber_hasClimbed c_this_cover_scores c_this_cover_size c_this_front_size c_this_gone c_this_met _ hw) (cwV 0 K.2.2.2.2.1 gX6_clear_X6_beginAnew rfl rfl rfl (by decide +kernel) ⟨by decide, by decide⟩) rfl rfl (Nat.le_of_ble_eq_true rfl) ⟨Nat.zero_le _, Nat.zero_le _⟩ dX6_clear_9) (fun _ => rfl) (fun _ => rfl) rfl (fun _ => rfl) (fun _ => rfl) (by decide) (by decide) (by decide) (fun u H locs hw hG => ?_)
  obtain ⟨c_this_behind_worked_9, c_this_climber_hasClimbed_9, c_this_cover_size_9, c_this_front_size_9, c_this_gone_9, c_this_met_9⟩ := u
  have hG : HW (dC, dI) A s.heap [(a_this, .inr (5, [.ref a_this_task, .ref a_this_front, .ref a_this_cover, .ref a_this_behind, .ref a_this_climber, .ref a_this_numbers, .ref a_this_asked, .int c_this_gone_9, .int c_this_met_9])), (a_this_behind, .inr (0, [.ref a_this_behind_corners, .int c_this_behind_size, .long c_this_behind_content, .int c_this_behind_worked_9, .ref a_this_behind_levels, .ref a_this_behind_ends, .ref a_this_behind_chosen, .int c_this_behind_last, .long c_this_behind_ones])), (a_this_climber, .inr (1, [.ref a_this_climber_place, .int c_this_climber_hasClimbed_9])), (a_this_cover, .inr (2, [.ref a_this_cover_picks, .ref a_this_cover_reach, .ref a_this_cover_covered, .int c_this_cover_scores, .int c_this_cover_size_9])), (a_this_front, .inr (3, [.ref a_this_front_scores, .ref a_this_front_points, .ref a_this_front_counts, .int c_this_front_size_9, .ref a_this_front_ideals, .ref a_this_front_scales])), (a_this_task, .inr (4, [.ref a_this_task_low, .ref a_this_task_high, .ref a_this_task_right, .ref a_this_task_terms, .ref a_this_task_from, .ref a_this_task_to, .ref a_this_task_costs, .int c_this_task_columns, .int c_this_task_rows, .int c_this_task_aims, .int c_this_task_points])), (a_this_task_costs, .inl (cG, 4, .inr (.inr (.inr (.inr (gro 4 a_this_task_costs_r)))))), (a_this_task_costs_r 0, .inl (cI, 8, .inl (c_this_task_costs 0))), (a_this_task_costs_r 1, .inl (cI, 8, .inl (c_this_task_costs 1))), (a_this_task_costs_r 2, .inl (cI, 8, .inl (c_this_task_costs 2))), (a_this_task_costs_r 3, .inl (cI, 8, .inl (c_this_task_costs 3))), (a_this_task_terms, .inl (cG, 8, .inr (.inr (.inr (.inr (gro 8 a_this_task_terms_r)))))), (a_this_task_terms_r 0, .inl (cI, 8, .inl (c_this_task_terms 0))), (a_this_task_terms_r 1, .inl (cI, 8, .inl (c_this_task_terms 1))), (a_this_task_terms_r 2, .inl (cI, 8, .inl (c_this_task_terms 2))), (a_this_task_terms_r 3, .inl (cI, 8, .inl (c_this_task_terms 3))), (a_this_task_terms_r 4, .inl (cI, 8, .inl (c_this_task_terms 4))), (a_this_task_terms_r 5, .inl (cI, 8, .inl (c_this_task_terms 5))), (a_this_task_terms_r 6, .inl (cI, 8, .inl (c_this_task_terms 6))), (a_this_task_terms_r 7, .inl (cI, 8, .inl (c_this_task_terms 7)))] H locs := hG
  refine lv_aload_n K.1 K.2.1 dX6_clear_12 rfl (lv_at hl 1 rfl) ?_
  refine g_get (v := .ref a_this_task) K hG hin_RX6 0 rfl rfl 0 (by decide) (K.2.2.2.2.1 (.fieldLink RX6 10 "AimFronts" "task" "LAimFronts$Task;") (by decide +kernel)) rfl rfl dX6_clear_13 ?_
  refine g_nv (w2 := (fun u => [(a_this, .inr (5, [.ref a_this_task, .ref a_this_front, .ref a_this_cover, .ref a_this_behind, .ref a_this_climber, .ref a_this_numbers, .ref a_this_asked, .int c_this_gone_9, .int c_this_met_9])), (a_this_behind, .inr (0, [.ref a_this_behind_corners, .int c_this_behind_size, .long c_this_behind_content, .int c_this_behind_worked_9, .ref a_this_behind_levels, .ref a_this_behind_ends, .ref a_this_behind_chosen, .int c_this_behind_last, .long c_this_behind_ones])), (a_this_climber, .inr (1, [.ref a_this_climber_place, .int c_this_climber_hasClimbed_9])), (a_this_cover, .inr (2, [.ref a_this_cover_picks, .ref a_this_cover_reach, .ref a_this_cover_covered, .int c_this_cover_scores, .int c_this_cover_size_9])), (a_this_front, .inr (3, [.ref a_this_front_scores, .ref a_this_front_points, .ref a_this_front_counts, .int c_this_front_size_9, .ref a_this_front_ideals, .ref a_this_front_scales])), (a_this_task, .inr (4, [.ref a_this_task_low, .ref a_this_task_high, .ref a_this_task_right, .ref a_this_task_terms, .ref a_this_task_from, .ref a_this_task_to, .ref a_this_task_costs, .int (u.2.1), .int (u.2.2.2.2.1), .int (u.1), .int (u.2.2.2.1)])), (a_this_task_costs, .inl (cG, 4, .inr (.inr (.inr (.inr (gro 4 a_this_task_costs_r)))))), (a_this_task_costs_r 0, .inl (cI, 8, .inl ((u.2.2.1) 0))), (a_this_task_costs_r 1, .inl (cI, 8, .inl ((u.2.2.1) 1))), (a_this_task_costs_r 2, .inl (cI, 8, .inl ((u.2.2.1) 2))), (a_this_task_costs_r 3, .inl (cI, 8, .inl ((u.2.2.1) 3))), (a_this_task_terms, .inl (cG, 8, .inr (.inr (.inr (.inr (gro 8 a_this_task_terms_r)))))), (a_this_task_terms_r 0, .inl (cI, 8, .inl ((u.2.2.2.2.2) 0))), (a_this_task_terms_r 1, .inl (cI, 8, .inl ((u.2.2.2.2.2) 1))), (a_this_task_terms_r 2, .inl (cI, 8, .inl ((u.2.2.2.2.2) 2))), (a_this_task_terms_r 3, .inl (cI, 8, .inl ((u.2.2.2.2.2) 3))), (a_this_task_terms_r 4, .inl (cI, 8, .inl ((u.2.2.2.2.2) 4))), (a_this_task_terms_r 5, .inl (cI, 8, .inl ((u.2.2.2.2.2) 5))), (a_this_task_terms_r 6, .inl (cI, 8, .inl ((u.2.2.2.2.2) 6))), (a_this_task_terms_r 7, .inl (cI, 8, .inl ((u.2.2.2.2.2) 7)))])) (wr := [(a_this, .inr (5, [.ref a_this_task, .ref a_this_front, .ref a_this_cover, .ref a_this_behind, .ref a_this_climber, .ref a_this_numbers, .ref a_this_asked, .int c_this_gone_9, .int c_this_met_9])), (a_this_behind, .inr (0, [.ref a_this_behind_corners, .int c_this_behind_size, .long c_this_behind_content, .int c_this_behind_worked_9, .ref a_this_behind_levels, .ref a_this_behind_ends, .ref a_this_behind_chosen, .int c_this_behind_last, .long c_this_behind_ones])), (a_this_climber, .inr (1, [.ref a_this_climber_place, .int c_this_climber_hasClimbed_9])), (a_this_cover, .inr (2, [.ref a_this_cover_picks, .ref a_this_cover_reach, .ref a_this_cover_covered, .int c_this_cover_scores, .int c_this_cover_size_9])), (a_this_front, .inr (3, [.ref a_this_front_scores, .ref a_this_front_points, .ref a_this_front_counts, .int c_this_front_size_9, .ref a_this_front_ideals, .ref a_this_front_scales]))]) K hG [5, 6, 7, 8, 9, 10, 11, 12, 13, 14, 15, 16, 17, 18, 19] [0, 1, 2, 3, 4] 20 rfl (g_runV (As := []) (rest := []) K hG hl [5, 6, 7, 8, 9, 10, 11, 12, 13, 14, 15, 16, 17, 18, 19] rfl rfl 5 rfl rfl (k_X5_forget l dC dI cI cJ cZ cG H.size a_this_task a_this_task_low a_this_task_high a_this_task_right a_this_task_terms a_this_task_from a_this_task_to a_this_task_costs a_this_task_costs_r a_this_task_terms_r c_this_task_aims c_this_task_columns c_this_task_costs c_this_task_points c_this_task_rows c_this_task_terms _ hw) (cwV 0 K.2.2.2.2.1 gX6_clear_X5_forget rfl rfl rfl (by decide +kernel) ⟨by decide, by decide⟩) rfl rfl (Nat.le_of_ble_eq_true rfl) ⟨Nat.zero_le _, Nat.zero_le _⟩ dX6_clear_16) (fun _ => rfl) (fun _ => rfl) rfl (fun _ => rfl) (fun _ => rfl) (by decide) (by decide) (by decide) (fun u H locs hw hG => ?_)
  obtain ⟨c_this_task_aims_16, c_this_task_columns_16, c_this_task_costs_16, c_this_task_points_16, c_this_task_rows_16, c_this_task_terms_16⟩ := u
  have hG : HW (dC, dI) A s.heap [(a_this, .inr (5, [.ref a_this_task, .ref a_this_front, .ref a_this_cover, .ref a_this_behind, .ref a_this_climber, .ref a_this_numbers, .ref a_this_asked, .int c_this_gone_9, .int c_this_met_9])), (a_this_behind, .inr (0, [.ref a_this_behind_corners, .int c_this_behind_size, .long c_this_behind_content, .int c_this_behind_worked_9, .ref a_this_behind_levels, .ref a_this_behind_ends, .ref a_this_behind_chosen, .int c_this_behind_last, .long c_this_behind_ones])), (a_this_climber, .inr (1, [.ref a_this_climber_place, .int c_this_climber_hasClimbed_9])), (a_this_cover, .inr (2, [.ref a_this_cover_picks, .ref a_this_cover_reach, .ref a_this_cover_covered, .int c_this_cover_scores, .int c_this_cover_size_9])), (a_this_front, .inr (3, [.ref a_this_front_scores, .ref a_this_front_points, .ref a_this_front_counts, .int c_this_front_size_9, .ref a_this_front_ideals, .ref a_this_front_scales])), (a_this_task, .inr (4, [.ref a_this_task_low, .ref a_this_task_high, .ref a_this_task_right, .ref a_this_task_terms, .ref a_this_task_from, .ref a_this_task_to, .ref a_this_task_costs, .int c_this_task_columns_16, .int c_this_task_rows_16, .int c_this_task_aims_16, .int c_this_task_points_16])), (a_this_task_costs, .inl (cG, 4, .inr (.inr (.inr (.inr (gro 4 a_this_task_costs_r)))))), (a_this_task_costs_r 0, .inl (cI, 8, .inl (c_this_task_costs_16 0))), (a_this_task_costs_r 1, .inl (cI, 8, .inl (c_this_task_costs_16 1))), (a_this_task_costs_r 2, .inl (cI, 8, .inl (c_this_task_costs_16 2))), (a_this_task_costs_r 3, .inl (cI, 8, .inl (c_this_task_costs_16 3))), (a_this_task_terms, .inl (cG, 8, .inr (.inr (.inr (.inr (gro 8 a_this_task_terms_r)))))), (a_this_task_terms_r 0, .inl (cI, 8, .inl (c_this_task_terms_16 0))), (a_this_task_terms_r 1, .inl (cI, 8, .inl (c_this_task_terms_16 1))), (a_this_task_terms_r 2, .inl (cI, 8, .inl (c_this_task_terms_16 2))), (a_this_task_terms_r 3, .inl (cI, 8, .inl (c_this_task_terms_16 3))), (a_this_task_terms_r 4, .inl (cI, 8, .inl (c_this_task_terms_16 4))), (a_this_task_terms_r 5, .inl (cI, 8, .inl (c_this_task_terms_16 5))), (a_this_task_terms_r 6, .inl (cI, 8, .inl (c_this_task_terms_16 6))), (a_this_task_terms_r 7, .inl (cI, 8, .inl (c_this_task_terms_16 7)))] H locs := hG
  refine lv_iload_n K.1 K.2.1 dX6_clear_19 rfl (lv_at hl 0 rfl) ?_
  exact hret c_this_task_columns (c_this_behind_worked_9, c_this_climber_hasClimbed_9, c_this_cover_size_9, c_this_front_size_9, c_this_gone_9, c_this_met_9, c_this_task_aims_16, c_this_task_columns_16, c_this_task_costs_16, c_this_task_points_16, c_this_task_rows_16, c_this_task_terms_16) H locs _ ls dX6_clear_20 rfl hw hG
abbrev rm_X5_fill : Room := { frames := 1, cells := 0, slots := 0, locals := 24 }
set_option maxHeartbeats 4000000 in
set_option maxRecDepth 100000 in
theorem k_X5_fill (l : Launch) (dC : Nat → ClassId) (dI : Nat → Nat → Nat) (cI cJ cZ cG : ClassId) (sz : Nat) (a_p2 a_this a_this_low a_this_high a_this_right a_this_terms a_this_from a_this_to a_this_costs : Nat) (c_p2 : Nat → Int32) (c_this_aims : Int32) (c_this_columns : Int32) (c_this_high : Nat → Int32) (c_this_low : Nat → Int32) (c_this_points : Int32) (c_this_rows : Int32) (x1 : Int32) (post : (Nat → Int32) → Prop) (hw : wp_X5_fill c_p2 c_this_columns c_this_high c_this_low x1 post) : MetV l yX5_fill wsX5_fill rm_X5_fill (dC, dI) cI cJ cZ cG [.ref a_this, .int x1, .ref a_p2] sz [(a_p2, .inl (cI, 8, .inl c_p2)), (a_this, .inr (4, [.ref a_this_low, .ref a_this_high, .ref a_this_right, .ref a_this_terms, .ref a_this_from, .ref a_this_to, .ref a_this_costs, .int c_this_columns, .int c_this_rows, .int c_this_aims, .int c_this_points])), (a_this_high, .inl (cI, 8, .inl c_this_high)), (a_this_low, .inl (cI, 8, .inl c_this_low))] (fun (u : (Nat → Int32)) => post u) (fun u => [(a_p2, .inl (cI, 8, .inl u)), (a_this, .inr (4, [.ref a_this_low, .ref a_this_high, .ref a_this_right, .ref a_this_terms, .ref a_this_from, .ref a_this_to, .ref a_this_costs, .int c_this_columns, .int c_this_rows, .int c_this_aims, .int c_this_points])), (a_this_high, .inl (cI, 8, .inl c_this_high)), (a_this_low, .inl (cI, 8, .inl c_this_low))]) := by
  refine met_v (cc := cX5_fill) (maxL := 6) (by decide) rfl (Nat.le_of_ble_eq_true rfl) ?_
  intro p e s m args below meth c A Q H locs ls K hG hl hret
  have hl : lv_has ls 6 [(0, .ref a_this), (1, .int x1), (2, .ref a_p2)] := hl
  have hin_RX5 : ∀ w ∈ u_ws RX5 TX5 11, w ∈ wsX5_fill := by decide +kernel
  unfold wp_X5_fill at hw
  refine lv_iload_n K.1 K.2.1 dX5_fill_0 rfl (lv_at hl 1 rfl) ?_
  refine lv_istore_n (lv' := [(3, .int x1), (0, .ref a_this), (1, .int x1), (2, .ref a_p2)]) K.1 K.2.1 dX5_fill_1 rfl hl (by decide) rfl (fun ls hl => ?_)
  refine lv_aload_n K.1 K.2.1 dX5_fill_2 rfl (lv_at hl 1 rfl) ?_
  refine g_get (v := .int c_this_columns) K hG hin_RX5 1 rfl rfl 7 (by decide) (K.2.2.2.2.1 (.fieldLink RX5 39 "AimFronts$Task" "columns" "I") (by decide +kernel)) rfl rfl dX5_fill_3 ?_
  refine lv_iconst (v := 1) K.1 K.2.1 dX5_fill_6 (by decide) ?_
  refine lv_isub K.1 K.2.1 dX5_fill_7 ?_
  refine lv_istore (lv' := [(4, .int (c_this_columns - (1 : Int32))), (3, .int x1), (0, .ref a_this), (1, .int x1), (2, .ref a_p2)]) K.1 K.2.1 dX5_fill_8 hl (by decide) rfl (fun ls hl => ?_)
  obtain ⟨kx_10, hkx_10, n_10, hw⟩ := Lx1_3_abs hw
  have hX_10 : ∀ (c_p2_10e : Nat → Int32) (H : Heap) (locs : List Loc) (ls : Array Slot), kx_10 c_p2_10e → HW (dC, dI) A s.heap [(a_p2, .inl (cI, 8, .inl c_p2_10e)), (a_this, .inr (4, [.ref a_this_low, .ref a_this_high, .ref a_this_right, .ref a_this_terms, .ref a_this_from, .ref a_this_to, .ref a_this_costs, .int c_this_columns, .int c_this_rows, .int c_this_aims, .int c_this_points])), (a_this_high, .inl (cI, 8, .inl c_this_high)), (a_this_low, .inl (cI, 8, .inl c_this_low))] H locs → lv_has ls 6 [] → W p l e rm_X5_fill s m args below meth c H locs 0 0 Q (F0 m 65 ls []) := by
    intro c_p2_10e H locs ls hw hG hl
    have hw := hkx_10 _ hw
    exact hret c_p2_10e H locs _ ls dX5_fill_65 hw hG
  have hL_10 : ∀ (n : Nat), ∀ (v3_10 : Int32) (v4_10 : Int32) (c_p2_10 : Nat → Int32) (H : Heap) (locs : List Loc) (ls : Array Slot), Lp3 (b_X5_fill_10 c_this_high c_this_low kx_10) n v3_10 v4_10 c_p2_10 → HW (dC, dI) A s.heap [(a_p2, .inl (cI, 8, .inl c_p2_10)), (a_this, .inr (4, [.ref a_this_low, .ref a_this_high, .ref a_this_right, .ref a_this_terms, .ref a_this_from, .ref a_this_to, .ref a_this_costs, .int c_this_columns, .int c_this_rows, .int c_this_aims, .int c_this_points])), (a_this_high, .inl (cI, 8, .inl c_this_high)), (a_this_low, .inl (cI, 8, .inl c_this_low))] H locs → lv_has ls 6 [(0, .ref a_this), (2, .ref a_p2), (3, .int v3_10), (4, .int v4_10)] → W p l e rm_X5_fill s m args below meth c H locs 0 0 Q (F0 m 10 ls []) := by
    intro n
    induction n with
    | zero => intro v3_10 v4_10 c_p2_10 H locs ls hw; exact False.elim hw
    | succ n ih_10 =>
      intro v3_10 v4_10 c_p2_10 H locs ls hw hG hl
      obtain ⟨w_10, hw_10, hw⟩ : ∃ w' : Int32 → Int32 → (Nat → Int32) → Prop, (∀ v3_10 v4_10 c_p2_10, w' v3_10 v4_10 c_p2_10 → Lp3 (b_X5_fill_10 c_this_high c_this_low kx_10) n v3_10 v4_10 c_p2_10) ∧ b_X5_fill_10 c_this_high c_this_low kx_10 w' v3_10 v4_10 c_p2_10 := ⟨_, fun _ _ _ h => h, hw⟩
      replace ih_10 : ∀ (v3_10 : Int32) (v4_10 : Int32) (c_p2_10 : Nat → Int32) (H : Heap) (locs : List Loc) (ls : Array Slot), w_10 v3_10 v4_10 c_p2_10 → HW (dC, dI) A s.heap [(a_p2, .inl (cI, 8, .inl c_p2_10)), (a_this, .inr (4, [.ref a_this_low, .ref a_this_high, .ref a_this_right, .ref a_this_terms, .ref a_this_from, .ref a_this_to, .ref a_this_costs, .int c_this_columns, .int c_this_rows, .int c_this_aims, .int c_this_points])), (a_this_high, .inl (cI, 8, .inl c_this_high)), (a_this_low, .inl (cI, 8, .inl c_this_low))] H locs → lv_has ls 6 [(0, .ref a_this), (2, .ref a_p2), (3, .int v3_10), (4, .int v4_10)] → W p l e rm_X5_fill s m args below meth c H locs 0 0 Q (F0 m 10 ls []) := fun v3_10 v4_10 c_p2_10 H locs ls h => ih_10 v3_10 v4_10 c_p2_10 H locs ls (hw_10 _ _ _ h)
      unfold b_X5_fill_10 at hw
      refine lv_iload K.1 K.2.1 dX5_fill_10 (lv_at hl 3 rfl) ?_
      refine lv_if_lt (tgt := 65) K.1 K.2.1 dX5_fill_12 (by decide) (fun q_12 => ?_) (fun q_12 => ?_)
      · have hw := hw.1 q_12
        exact hX_10 c_p2_10 H locs ls hw hG (lv_sub hl [] rfl)
      · have hw := hw.2 q_12
        refine lv_iconst (v := 1) K.1 K.2.1 dX5_fill_15 (by decide) ?_
        refine lv_aload_n K.1 K.2.1 dX5_fill_16 rfl (lv_at hl 0 rfl) ?_
        refine g_get (v := .ref a_this_high) K hG hin_RX5 1 rfl rfl 1 (by decide) (K.2.2.2.2.1 (.fieldLink RX5 15 "AimFronts$Task" "high" "[I") (by decide +kernel)) rfl rfl dX5_fill_17 ?_
        refine lv_iload K.1 K.2.1 dX5_fill_20 (lv_at hl 3 rfl) ?_
        obtain ⟨h_22, hw⟩ := hw
        refine g_iald K hG 2 rfl h_22 dX5_fill_22 ?_
        refine lv_aload_n K.1 K.2.1 dX5_fill_23 rfl (lv_at hl 0 rfl) ?_
        refine g_get (v := .ref a_this_low) K hG hin_RX5 1 rfl rfl 0 (by decide) (K.2.2.2.2.1 (.fieldLink RX5 9 "AimFronts$Task" "low" "[I") (by decide +kernel)) rfl rfl dX5_fill_24 ?_
        refine lv_iload K.1 K.2.1 dX5_fill_27 (lv_at hl 3 rfl) ?_
        obtain ⟨h_29, hw⟩ := hw
        refine g_iald K hG 3 rfl h_29 dX5_fill_29 ?_
        refine lv_isub K.1 K.2.1 dX5_fill_30 ?_
        refine lv_iconst (v := 1) K.1 K.2.1 dX5_fill_31 (by decide) ?_
        refine lv_iadd K.1 K.2.1 dX5_fill_32 ?_
        refine va_mmax K.1 K.2.1 (K.2.2.1.trans hl.1.symm) K.2.2.2.1 (K.2.2.2.2.1 (.methodLink RX5 54 Lib.Math.max.name) (by decide +kernel)) (K.2.2.2.2.1 (.static Lib.Math.max.name) (by decide +kernel)) (K.2.2.2.2.1 (.initialized "java/lang/Math") (by decide +kernel)) (K.2.2.2.2.1 (.code Lib.Math.max.name Lib.Math.max.code 2 (some .int)) (by decide +kernel)) (Nat.le_of_ble_eq_true rfl) (Nat.le_of_ble_eq_true rfl) (Nat.zero_le _) (Nat.zero_le _) dX5_fill_33 ?_
        refine lv_istore (lv' := [(5, .int (if (1 : Int32) < (((c_this_high (v4_10).toNatClampNeg) - (c_this_low (v4_10).toNatClampNeg)) + (1 : Int32)) then (((c_this_high (v4_10).toNatClampNeg) - (c_this_low (v4_10).toNatClampNeg)) + (1 : Int32)) else (1 : Int32))), (0, .ref a_this), (2, .ref a_p2), (3, .int v3_10), (4, .int v4_10)]) K.1 K.2.1 dX5_fill_36 hl (by decide) rfl (fun ls hl => ?_)
        refine lv_aload_n K.1 K.2.1 dX5_fill_38 rfl (lv_at hl 2 rfl) ?_
        refine lv_iload K.1 K.2.1 dX5_fill_39 (lv_at hl 4 rfl) ?_
        refine lv_aload_n K.1 K.2.1 dX5_fill_41 rfl (lv_at hl 1 rfl) ?_
        refine g_get (v := .ref a_this_low) K hG hin_RX5 1 rfl rfl 0 (by decide) (K.2.2.2.2.1 (.fieldLink RX5 9 "AimFronts$Task" "low" "[I") (by decide +kernel)) rfl rfl dX5_fill_42 ?_
        refine lv_iload K.1 K.2.1 dX5_fill_45 (lv_at hl 4 rfl) ?_
        obtain ⟨h_47, hw⟩ := hw
        refine g_iald K hG 3 rfl h_47 dX5_fill_47 ?_
        refine lv_iload_n K.1 K.2.1 dX5_fill_48 rfl (lv_at hl 3 rfl) ?_
        refine lv_iload K.1 K.2.1 dX5_fill_49 (lv_at hl 0 rfl) ?_
        obtain ⟨h_51, hw⟩ := hw
        refine lv_irem K.1 K.2.1 dX5_fill_51 h_51 ?_
        refine lv_iadd K.1 K.2.1 dX5_fill_52 ?_
        obtain ⟨h_53, hw⟩ := hw
        refine g_iast (ws' := [(a_p2, .inl (cI, 8, .inl (upd c_p2_10 (v4_10).toNatClampNeg ((c_this_low (v4_10).toNatClampNeg) + (v3_10 - v3_10 / (if (1 : Int32) < (((c_this_high (v4_10).toNatClampNeg) - (c_this_low (v4_10).toNatClampNeg)) + (1 : Int32)) then (((c_this_high (v4_10).toNatClampNeg) - (c_this_low (v4_10).toNatClampNeg)) + (1 : Int32)) else (1 : Int32)) * (if (1 : Int32) < (((c_this_high (v4_10).toNatClampNeg) - (c_this_low (v4_10).toNatClampNeg)) + (1 : Int32)) then (((c_this_high (v4_10).toNatClampNeg) - (c_this_low (v4_10).toNatClampNeg)) + (1 : Int32)) else (1 : Int32))))))), (a_this, .inr (4, [.ref a_this_low, .ref a_this_high, .ref a_this_right, .ref a_this_terms, .ref a_this_from, .ref a_this_to, .ref a_this_costs, .int c_this_columns, .int c_this_rows, .int c_this_aims, .int c_this_points])), (a_this_high, .inl (cI, 8, .inl c_this_high)), (a_this_low, .inl (cI, 8, .inl c_this_low))]) K hG 0 rfl h_53 rfl dX5_fill_53 (fun H locs hG => ?_)
        refine lv_iload_n K.1 K.2.1 dX5_fill_54 rfl (lv_at hl 3 rfl) ?_
        refine lv_iload K.1 K.2.1 dX5_fill_55 (lv_at hl 0 rfl) ?_
        obtain ⟨h_57, hw⟩ := hw
        refine lv_idiv K.1 K.2.1 dX5_fill_57 h_57 ?_
        refine lv_istore_n (lv' := [(3, .int (v3_10 / (if (1 : Int32) < (((c_this_high (v4_10).toNatClampNeg) - (c_this_low (v4_10).toNatClampNeg)) + (1 : Int32)) then (((c_this_high (v4_10).toNatClampNeg) - (c_this_low (v4_10).toNatClampNeg)) + (1 : Int32)) else (1 : Int32)))), (5, .int (if (1 : Int32) < (((c_this_high (v4_10).toNatClampNeg) - (c_this_low (v4_10).toNatClampNeg)) + (1 : Int32)) then (((c_this_high (v4_10).toNatClampNeg) - (c_this_low (v4_10).toNatClampNeg)) + (1 : Int32)) else (1 : Int32))), (0, .ref a_this), (2, .ref a_p2), (4, .int v4_10)]) K.1 K.2.1 dX5_fill_58 rfl hl (by decide) rfl (fun ls hl => ?_)
        refine lv_iinc (v := (v4_10 + (-1 : Int32))) (lv' := [(4, .int (v4_10 + (-1 : Int32))), (3, .int (v3_10 / (if (1 : Int32) < (((c_this_high (v4_10).toNatClampNeg) - (c_this_low (v4_10).toNatClampNeg)) + (1 : Int32)) then (((c_this_high (v4_10).toNatClampNeg) - (c_this_low (v4_10).toNatClampNeg)) + (1 : Int32)) else (1 : Int32)))), (5, .int (if (1 : Int32) < (((c_this_high (v4_10).toNatClampNeg) - (c_this_low (v4_10).toNatClampNeg)) + (1 : Int32)) then (((c_this_high (v4_10).toNatClampNeg) - (c_this_low (v4_10).toNatClampNeg)) + (1 : Int32)) else (1 : Int32))), (0, .ref a_this), (2, .ref a_p2)]) K.1 K.2.1 dX5_fill_59 hl (k := 4) rfl rfl (by decide) rfl (fun ls hl => ?_)
        refine lv_goto (tgt := 10) K.1 K.2.1 dX5_fill_62 (by decide) ?_
        exact ih_10 (v3_10 / (if (1 : Int32) < (((c_this_high (v4_10).toNatClampNeg) - (c_this_low (v4_10).toNatClampNeg)) + (1 : Int32)) then (((c_this_high (v4_10).toNatClampNeg) - (c_this_low (v4_10).toNatClampNeg)) + (1 : Int32)) else (1 : Int32))) (v4_10 + (-1 : Int32)) (upd c_p2_10 (v4_10).toNatClampNeg ((c_this_low (v4_10).toNatClampNeg) + (v3_10 - v3_10 / (if (1 : Int32) < (((c_this_high (v4_10).toNatClampNeg) - (c_this_low (v4_10).toNatClampNeg)) + (1 : Int32)) then (((c_this_high (v4_10).toNatClampNeg) - (c_this_low (v4_10).toNatClampNeg)) + (1 : Int32)) else (1 : Int32)) * (if (1 : Int32) < (((c_this_high (v4_10).toNatClampNeg) - (c_this_low (v4_10).toNatClampNeg)) + (1 : Int32)) then (((c_this_high (v4_10).toNatClampNeg) - (c_this_low (v4_10).toNatClampNeg)) + (1 : Int32)) else (1 : Int32))))) H locs ls hw hG (lv_sub hl [3, 4, 1, 0] rfl)
  exact hL_10 n_10 x1 (c_this_columns - (1 : Int32)) c_p2 H locs ls hw hG (lv_sub hl [2, 4, 1, 0] rfl)
abbrev rm_X5_sum : Room := { frames := 0, cells := 0, slots := 0, locals := 0 }
set_option maxHeartbeats 4000000 in
set_option maxRecDepth 100000 in
theorem k_X5_sum (l : Launch) (dC : Nat → ClassId) (dI : Nat → Nat → Nat) (cI cJ cZ cG : ClassId) (sz : Nat) (a_p1 a_p2 a_this a_this_low a_this_high a_this_right a_this_terms a_this_from a_this_to a_this_costs : Nat) (c_p1 : Nat → Int32) (c_p2 : Nat → Int32) (c_this_aims : Int32) (c_this_columns : Int32) (c_this_points : Int32) (c_this_rows : Int32) (post : Int32 → Prop) (hw : wp_X5_sum c_p1 c_p2 c_this_columns post) : MetI l yX5_sum wsX5_sum rm_X5_sum (dC, dI) cI cJ cZ cG [.ref a_this, .ref a_p1, .ref a_p2] sz [(a_p1, .inl (cI, 8, .inl c_p1)), (a_p2, .inl (cI, 8, .inl c_p2)), (a_this, .inr (4, [.ref a_this_low, .ref a_this_high, .ref a_this_right, .ref a_this_terms, .ref a_this_from, .ref a_this_to, .ref a_this_costs, .int c_this_columns, .int c_this_rows, .int c_this_aims, .int c_this_points]))] (fun (r : Int32) (u : Unit) => post r) (fun u => [(a_p1, .inl (cI, 8, .inl c_p1)), (a_p2, .inl (cI, 8, .inl c_p2)), (a_this, .inr (4, [.ref a_this_low, .ref a_this_high, .ref a_this_right, .ref a_this_terms, .ref a_this_from, .ref a_this_to, .ref a_this_costs, .int c_this_columns, .int c_this_rows, .int c_this_aims, .int c_this_points]))]) := by
  refine met_i (ty := .int) (Or.inl rfl) (cc := cX5_sum) (maxL := 5) (by decide) rfl (Nat.le_of_ble_eq_true rfl) ?_
  intro p e s m args below meth c A Q H locs ls K hG hl hret
  have hl : lv_has ls 5 [(0, .ref a_this), (1, .ref a_p1), (2, .ref a_p2)] := hl
  have hin_RX5 : ∀ w ∈ u_ws RX5 TX5 11, w ∈ wsX5_sum := by decide +kernel
  unfold wp_X5_sum at hw
  refine lv_iconst (v := 0) K.1 K.2.1 dX5_sum_0 (by decide) ?_
  refine lv_istore_n (lv' := [(3, .int (0 : Int32)), (0, .ref a_this), (1, .ref a_p1), (2, .ref a_p2)]) K.1 K.2.1 dX5_sum_1 rfl hl (by decide) rfl (fun ls hl => ?_)
  refine lv_iconst (v := 0) K.1 K.2.1 dX5_sum_2 (by decide) ?_
  refine lv_istore (lv' := [(4, .int (0 : Int32)), (3, .int (0 : Int32)), (0, .ref a_this), (1, .ref a_p1), (2, .ref a_p2)]) K.1 K.2.1 dX5_sum_3 hl (by decide) rfl (fun ls hl => ?_)
  obtain ⟨kx_5, hkx_5, n_5, hw⟩ := Lx1_2_abs hw
  have hX_5 : ∀ (v3_5e : Int32) (H : Heap) (locs : List Loc) (ls : Array Slot), kx_5 v3_5e → HW (dC, dI) A s.heap [(a_p1, .inl (cI, 8, .inl c_p1)), (a_p2, .inl (cI, 8, .inl c_p2)), (a_this, .inr (4, [.ref a_this_low, .ref a_this_high, .ref a_this_right, .ref a_this_terms, .ref a_this_from, .ref a_this_to, .ref a_this_costs, .int c_this_columns, .int c_this_rows, .int c_this_aims, .int c_this_points]))] H locs → lv_has ls 5 [(3, .int v3_5e)] → W p l e rm_X5_sum s m args below meth c H locs 0 0 Q (F0 m 32 ls []) := by
    intro v3_5e H locs ls hw hG hl
    have hw := hkx_5 _ hw
    refine lv_iload_n K.1 K.2.1 dX5_sum_32 rfl (lv_at hl 0 rfl) ?_
    exact hret v3_5e () H locs _ ls dX5_sum_33 rfl hw hG
  have hL_5 : ∀ (n : Nat), ∀ (v3_5 : Int32) (v4_5 : Int32) (H : Heap) (locs : List Loc) (ls : Array Slot), Lp2 (b_X5_sum_5 c_p1 c_p2 c_this_columns kx_5) n v3_5 v4_5 → HW (dC, dI) A s.heap [(a_p1, .inl (cI, 8, .inl c_p1)), (a_p2, .inl (cI, 8, .inl c_p2)), (a_this, .inr (4, [.ref a_this_low, .ref a_this_high, .ref a_this_right, .ref a_this_terms, .ref a_this_from, .ref a_this_to, .ref a_this_costs, .int c_this_columns, .int c_this_rows, .int c_this_aims, .int c_this_points]))] H locs → lv_has ls 5 [(0, .ref a_this), (1, .ref a_p1), (2, .ref a_p2), (3, .int v3_5), (4, .int v4_5)] → W p l e rm_X5_sum s m args below meth c H locs 0 0 Q (F0 m 5 ls []) := by
    intro n
    induction n with
    | zero => intro v3_5 v4_5 H locs ls hw; exact False.elim hw
    | succ n ih_5 =>
      intro v3_5 v4_5 H locs ls hw hG hl
      obtain ⟨w_5, hw_5, hw⟩ : ∃ w' : Int32 → Int32 → Prop, (∀ v3_5 v4_5, w' v3_5 v4_5 → Lp2 (b_X5_sum_5 c_p1 c_p2 c_this_columns kx_5) n v3_5 v4_5) ∧ b_X5_sum_5 c_p1 c_p2 c_this_columns kx_5 w' v3_5 v4_5 := ⟨_, fun _ _ h => h, hw⟩
      replace ih_5 : ∀ (v3_5 : Int32) (v4_5 : Int32) (H : Heap) (locs : List Loc) (ls : Array Slot), w_5 v3_5 v4_5 → HW (dC, dI) A s.heap [(a_p1, .inl (cI, 8, .inl c_p1)), (a_p2, .inl (cI, 8, .inl c_p2)), (a_this, .inr (4, [.ref a_this_low, .ref a_this_high, .ref a_this_right, .ref a_this_terms, .ref a_this_from, .ref a_this_to, .ref a_this_costs, .int c_this_columns, .int c_this_rows, .int c_this_aims, .int c_this_points]))] H locs → lv_has ls 5 [(0, .ref a_this), (1, .ref a_p1), (2, .ref a_p2), (3, .int v3_5), (4, .int v4_5)] → W p l e rm_X5_sum s m args below meth c H locs 0 0 Q (F0 m 5 ls []) := fun v3_5 v4_5 H locs ls h => ih_5 v3_5 v4_5 H locs ls (hw_5 _ _ h)
      unfold b_X5_sum_5 at hw
      refine lv_iload K.1 K.2.1 dX5_sum_5 (lv_at hl 4 rfl) ?_
      refine lv_aload_n K.1 K.2.1 dX5_sum_7 rfl (lv_at hl 0 rfl) ?_
      refine g_get (v := .int c_this_columns) K hG hin_RX5 2 rfl rfl 7 (by decide) (K.2.2.2.2.1 (.fieldLink RX5 39 "AimFronts$Task" "columns" "I") (by decide +kernel)) rfl rfl dX5_sum_8 ?_
      refine lv_icmp_ge (tgt := 32) K.1 K.2.1 dX5_sum_11 (by decide) (fun q_11 => ?_) (fun q_11 => ?_)
      · have hw := hw.1 q_11
        exact hX_5 v3_5 H locs ls hw hG (lv_sub hl [3] rfl)
      · have hw := hw.2 q_11
        refine lv_iload_n K.1 K.2.1 dX5_sum_14 rfl (lv_at hl 3 rfl) ?_
        refine lv_aload_n K.1 K.2.1 dX5_sum_15 rfl (lv_at hl 1 rfl) ?_
        refine lv_iload K.1 K.2.1 dX5_sum_16 (lv_at hl 4 rfl) ?_
        obtain ⟨h_18, hw⟩ := hw
        refine g_iald K hG 0 rfl h_18 dX5_sum_18 ?_
        refine lv_aload_n K.1 K.2.1 dX5_sum_19 rfl (lv_at hl 2 rfl) ?_
        refine lv_iload K.1 K.2.1 dX5_sum_20 (lv_at hl 4 rfl) ?_
        obtain ⟨h_22, hw⟩ := hw
        refine g_iald K hG 1 rfl h_22 dX5_sum_22 ?_
        refine lv_imul K.1 K.2.1 dX5_sum_23 ?_
        refine lv_iadd K.1 K.2.1 dX5_sum_24 ?_
        refine lv_istore_n (lv' := [(3, .int (v3_5 + ((c_p1 (v4_5).toNatClampNeg) * (c_p2 (v4_5).toNatClampNeg)))), (0, .ref a_this), (1, .ref a_p1), (2, .ref a_p2), (4, .int v4_5)]) K.1 K.2.1 dX5_sum_25 rfl hl (by decide) rfl (fun ls hl => ?_)
        refine lv_iinc (v := (v4_5 + (1 : Int32))) (lv' := [(4, .int (v4_5 + (1 : Int32))), (3, .int (v3_5 + ((c_p1 (v4_5).toNatClampNeg) * (c_p2 (v4_5).toNatClampNeg)))), (0, .ref a_this), (1, .ref a_p1), (2, .ref a_p2)]) K.1 K.2.1 dX5_sum_26 hl (k := 4) rfl rfl (by decide) rfl (fun ls hl => ?_)
        refine lv_goto (tgt := 5) K.1 K.2.1 dX5_sum_29 (by decide) ?_
        exact ih_5 (v3_5 + ((c_p1 (v4_5).toNatClampNeg) * (c_p2 (v4_5).toNatClampNeg))) (v4_5 + (1 : Int32)) H locs ls hw hG (lv_sub hl [2, 3, 4, 1, 0] rfl)
  exact hL_5 n_5 (0 : Int32) (0 : Int32) H locs ls hw hG (lv_sub hl [2, 3, 4, 1, 0] rfl)
abbrev rm_X4_place : Room := { frames := 0, cells := 0, slots := 0, locals := 0 }
set_option maxHeartbeats 4000000 in
set_option maxRecDepth 100000 in
theorem k_X4_place (l : Launch) (dC : Nat → ClassId) (dI : Nat → Nat → Nat) (cI cJ cZ cG : ClassId) (sz : Nat) (x0 : Int32) (post : Int32 → Prop) (hw : wp_X4_place x0 post) : MetI l yX4_place wsX4_place rm_X4_place (dC, dI) cI cJ cZ cG [.int x0] sz [] (fun (r : Int32) (u : Unit) => post r) (fun u => []) := by
  refine met_i (ty := .int) (Or.inl rfl) (cc := cX4_place) (maxL := 1) (by decide) rfl (Nat.le_of_ble_eq_true rfl) ?_
  intro p e s m args below meth c A Q H locs ls K hG hl hret
  have hl : lv_has ls 1 [(0, .int x0)] := hl
  unfold wp_X4_place at hw
  refine lv_bipush (v := 48) K.1 K.2.1 dX4_place_0 (by decide) ?_
  refine lv_bipush (v := 16) K.1 K.2.1 dX4_place_2 (by decide) ?_
  refine lv_iload_n K.1 K.2.1 dX4_place_4 rfl (lv_at hl 0 rfl) ?_
  refine lv_imul K.1 K.2.1 dX4_place_5 ?_
  refine lv_isub K.1 K.2.1 dX4_place_6 ?_
  exact hret ((48 : Int32) - ((16 : Int32) * x0)) () H locs _ ls dX4_place_7 rfl hw hG
abbrev rm_X4_lane : Room := { frames := 1, cells := 0, slots := 0, locals := 20 }
set_option maxHeartbeats 4000000 in
set_option maxRecDepth 100000 in
theorem k_X4_lane (l : Launch) (dC : Nat → ClassId) (dI : Nat → Nat → Nat) (cI cJ cZ cG : ClassId) (sz : Nat) (x0 : Int32) (x1 : Int32) (post : Int64 → Prop) (hw : wp_X4_lane x0 x1 post) : MetL l yX4_lane wsX4_lane rm_X4_lane (dC, dI) cI cJ cZ cG [.int x0, .int x1] sz [] (fun (r : Int64) (u : Unit) => post r) (fun u => []) := by
  refine met_l (cc := cX4_lane) (maxL := 2) (by decide) rfl (Nat.le_of_ble_eq_true rfl) ?_
  intro p e s m args below meth c A Q H locs ls K hG hl hret
  have hl : lv_has ls 2 [(0, .int x0), (1, .int x1)] := hl
  unfold wp_X4_lane at hw
  refine lv_iload_n K.1 K.2.1 dX4_lane_0 rfl (lv_at hl 1 rfl) ?_
  refine lv_sipush (v := 2048) K.1 K.2.1 dX4_lane_1 (by decide) ?_
  refine lv_iadd K.1 K.2.1 dX4_lane_4 ?_
  refine lv_i2l K.1 K.2.1 dX4_lane_5 rfl ?_
  refine lv_iload_n K.1 K.2.1 dX4_lane_6 rfl (lv_at hl 0 rfl) ?_
  refine g_ri K hG [] rfl (g_runS (As := [.int x0]) (rest := [.long (((x1 + (2048 : Int32))).toInt64)]) K hG hl [] rfl rfl (k_X4_place l dC dI cI cJ cZ cG H.size x0 _ hw) (va_cwS 1 K.2.2.2.2.1 gX4_lane_X4_place rfl rfl rfl (by decide +kernel) ⟨by decide, by decide⟩) rfl rfl (Nat.le_of_ble_eq_true rfl) ⟨Nat.zero_le _, Nat.zero_le _⟩ dX4_lane_7) (fun r_7 H locs hw hG => ?_)
  refine lv_lshl K.1 K.2.1 dX4_lane_10 rfl ?_
  exact hret ((((x1 + (2048 : Int32))).toInt64) <<< ((r_7).toInt64 &&& 63)) () H locs _ ls dX4_lane_11 hw hG
abbrev rm_X5_scoreOf : Room := { frames := 2, cells := 0, slots := 0, locals := 41 }
set_option maxHeartbeats 4000000 in
set_option maxRecDepth 100000 in
theorem k_X5_scoreOf (l : Launch) (dC : Nat → ClassId) (dI : Nat → Nat → Nat) (cI cJ cZ cG : ClassId) (sz : Nat) (a_p1 a_this a_this_low a_this_high a_this_right a_this_terms a_this_from a_this_to a_this_costs : Nat) (a_this_costs_r a_this_terms_r : Nat → Nat) (c_p1 : Nat → Int32) (c_this_aims : Int32) (c_this_columns : Int32) (c_this_costs : Nat → Nat → Int32) (c_this_from : Nat → Int32) (c_this_points : Int32) (c_this_right : Nat → Int32) (c_this_rows : Int32) (c_this_terms : Nat → Nat → Int32) (c_this_to : Nat → Int32) (post : Int64 → Prop) (hw : wp_X5_scoreOf c_p1 c_this_aims c_this_columns c_this_costs c_this_from c_this_right c_this_rows c_this_terms c_this_to post) : MetL l yX5_scoreOf wsX5_scoreOf rm_X5_scoreOf (dC, dI) cI cJ cZ cG [.ref a_this, .ref a_p1] sz [(a_p1, .inl (cI, 8, .inl c_p1)), (a_this, .inr (4, [.ref a_this_low, .ref a_this_high, .ref a_this_right, .ref a_this_terms, .ref a_this_from, .ref a_this_to, .ref a_this_costs, .int c_this_columns, .int c_this_rows, .int c_this_aims, .int c_this_points])), (a_this_costs, .inl (cG, 4, .inr (.inr (.inr (.inr (gro 4 a_this_costs_r)))))), (a_this_costs_r 0, .inl (cI, 8, .inl (c_this_costs 0))), (a_this_costs_r 1, .inl (cI, 8, .inl (c_this_costs 1))), (a_this_costs_r 2, .inl (cI, 8, .inl (c_this_costs 2))), (a_this_costs_r 3, .inl (cI, 8, .inl (c_this_costs 3))), (a_this_from, .inl (cI, 4, .inl c_this_from)), (a_this_right, .inl (cI, 8, .inl c_this_right)), (a_this_terms, .inl (cG, 8, .inr (.inr (.inr (.inr (gro 8 a_this_terms_r)))))), (a_this_terms_r 0, .inl (cI, 8, .inl (c_this_terms 0))), (a_this_terms_r 1, .inl (cI, 8, .inl (c_this_terms 1))), (a_this_terms_r 2, .inl (cI, 8, .inl (c_this_terms 2))), (a_this_terms_r 3, .inl (cI, 8, .inl (c_this_terms 3))), (a_this_terms_r 4, .inl (cI, 8, .inl (c_this_terms 4))), (a_this_terms_r 5, .inl (cI, 8, .inl (c_this_terms 5))), (a_this_terms_r 6, .inl (cI, 8, .inl (c_this_terms 6))), (a_this_terms_r 7, .inl (cI, 8, .inl (c_this_terms 7))), (a_this_to, .inl (cI, 4, .inl c_this_to))] (fun (r : Int64) (u : Unit) => post r) (fun u => [(a_p1, .inl (cI, 8, .inl c_p1)), (a_this, .inr (4, [.ref a_this_low, .ref a_this_high, .ref a_this_right, .ref a_this_terms, .ref a_this_from, .ref a_this_to, .ref a_this_costs, .int c_this_columns, .int c_this_rows, .int c_this_aims, .int c_this_points])), (a_this_costs, .inl (cG, 4, .inr (.inr (.inr (.inr (gro 4 a_this_costs_r)))))), (a_this_costs_r 0, .inl (cI, 8, .inl (c_this_costs 0))), (a_this_costs_r 1, .inl (cI, 8, .inl (c_this_costs 1))), (a_this_costs_r 2, .inl (cI, 8, .inl (c_this_costs 2))), (a_this_costs_r 3, .inl (cI, 8, .inl (c_this_costs 3))), (a_this_from, .inl (cI, 4, .inl c_this_from)), (a_this_right, .inl (cI, 8, .inl c_this_right)), (a_this_terms, .inl (cG, 8, .inr (.inr (.inr (.inr (gro 8 a_this_terms_r)))))), (a_this_terms_r 0, .inl (cI, 8, .inl (c_this_terms 0))), (a_this_terms_r 1, .inl (cI, 8, .inl (c_this_terms 1))), (a_this_terms_r 2, .inl (cI, 8, .inl (c_this_terms 2))), (a_this_terms_r 3, .inl (cI, 8, .inl (c_this_terms 3))), (a_this_terms_r 4, .inl (cI, 8, .inl (c_this_terms 4))), (a_this_terms_r 5, .inl (cI, 8, .inl (c_this_terms 5))), (a_this_terms_r 6, .inl (cI, 8, .inl (c_this_terms 6))), (a_this_terms_r 7, .inl (cI, 8, .inl (c_this_terms 7))), (a_this_to, .inl (cI, 4, .inl c_this_to))]) := by
  refine met_l (cc := cX5_scoreOf) (maxL := 6) (by decide) rfl (Nat.le_of_ble_eq_true rfl) ?_
  intro p e s m args below meth c A Q H locs ls K hG hl hret
  have hl : lv_has ls 6 [(0, .ref a_this), (1, .ref a_p1)] := hl
  have hin_RX5 : ∀ w ∈ u_ws RX5 TX5 11, w ∈ wsX5_scoreOf := by decide +kernel
  unfold wp_X5_scoreOf at hw
  refine lv_iconst (v := 0) K.1 K.2.1 dX5_scoreOf_0 (by decide) ?_
  refine lv_istore_n (lv' := [(2, .int (0 : Int32)), (0, .ref a_this), (1, .ref a_p1)]) K.1 K.2.1 dX5_scoreOf_1 rfl hl (by decide) rfl (fun ls hl => ?_)
  obtain ⟨kx_2, hkx_2, n_2, hw⟩ := Lx0_1_abs hw
  have hX_2 : ∀  (H : Heap) (locs : List Loc) (ls : Array Slot), kx_2 → HW (dC, dI) A s.heap [(a_p1, .inl (cI, 8, .inl c_p1)), (a_this, .inr (4, [.ref a_this_low, .ref a_this_high, .ref a_this_right, .ref a_this_terms, .ref a_this_from, .ref a_this_to, .ref a_this_costs, .int c_this_columns, .int c_this_rows, .int c_this_aims, .int c_this_points])), (a_this_costs, .inl (cG, 4, .inr (.inr (.inr (.inr (gro 4 a_this_costs_r)))))), (a_this_costs_r 0, .inl (cI, 8, .inl (c_this_costs 0))), (a_this_costs_r 1, .inl (cI, 8, .inl (c_this_costs 1))), (a_this_costs_r 2, .inl (cI, 8, .inl (c_this_costs 2))), (a_this_costs_r 3, .inl (cI, 8, .inl (c_this_costs 3))), (a_this_from, .inl (cI, 4, .inl c_this_from)), (a_this_right, .inl (cI, 8, .inl c_this_right)), (a_this_terms, .inl (cG, 8, .inr (.inr (.inr (.inr (gro 8 a_this_terms_r)))))), (a_this_terms_r 0, .inl (cI, 8, .inl (c_this_terms 0))), (a_this_terms_r 1, .inl (cI, 8, .inl (c_this_terms 1))), (a_this_terms_r 2, .inl (cI, 8, .inl (c_this_terms 2))), (a_this_terms_r 3, .inl (cI, 8, .inl (c_this_terms 3))), (a_this_terms_r 4, .inl (cI, 8, .inl (c_this_terms 4))), (a_this_terms_r 5, .inl (cI, 8, .inl (c_this_terms 5))), (a_this_terms_r 6, .inl (cI, 8, .inl (c_this_terms 6))), (a_this_terms_r 7, .inl (cI, 8, .inl (c_this_terms 7))), (a_this_to, .inl (cI, 4, .inl c_this_to))] H locs → lv_has ls 6 [(0, .ref a_this), (1, .ref a_p1)] → W p l e rm_X5_scoreOf s m args below meth c H locs 0 0 Q (F0 m 40 ls []) := by
    intro H locs ls hw hG hl
    have hw := hkx_2 hw
    refine lv_lconst (v := 0) K.1 K.2.1 dX5_scoreOf_40 (by decide) ?_
    refine lv_lstore_n (lv' := [(2, .long (0 : Int64)), (0, .ref a_this), (1, .ref a_p1)]) K.1 K.2.1 dX5_scoreOf_41 rfl hl (by decide) rfl (fun ls hl => ?_)
    refine lv_iconst (v := 0) K.1 K.2.1 dX5_scoreOf_42 (by decide) ?_
    refine lv_istore (lv' := [(4, .int (0 : Int32)), (2, .long (0 : Int64)), (0, .ref a_this), (1, .ref a_p1)]) K.1 K.2.1 dX5_scoreOf_43 hl (by decide) rfl (fun ls hl => ?_)
    obtain ⟨kx_45, hkx_45, n_45, hw⟩ := Lx1_2_abs hw
    have hX_45 : ∀ (v2_45e : Int64) (H : Heap) (locs : List Loc) (ls : Array Slot), kx_45 v2_45e → HW (dC, dI) A s.heap [(a_p1, .inl (cI, 8, .inl c_p1)), (a_this, .inr (4, [.ref a_this_low, .ref a_this_high, .ref a_this_right, .ref a_this_terms, .ref a_this_from, .ref a_this_to, .ref a_this_costs, .int c_this_columns, .int c_this_rows, .int c_this_aims, .int c_this_points])), (a_this_costs, .inl (cG, 4, .inr (.inr (.inr (.inr (gro 4 a_this_costs_r)))))), (a_this_costs_r 0, .inl (cI, 8, .inl (c_this_costs 0))), (a_this_costs_r 1, .inl (cI, 8, .inl (c_this_costs 1))), (a_this_costs_r 2, .inl (cI, 8, .inl (c_this_costs 2))), (a_this_costs_r 3, .inl (cI, 8, .inl (c_this_costs 3))), (a_this_from, .inl (cI, 4, .inl c_this_from)), (a_this_right, .inl (cI, 8, .inl c_this_right)), (a_this_terms, .inl (cG, 8, .inr (.inr (.inr (.inr (gro 8 a_this_terms_r)))))), (a_this_terms_r 0, .inl (cI, 8, .inl (c_this_terms 0))), (a_this_terms_r 1, .inl (cI, 8, .inl (c_this_terms 1))), (a_this_terms_r 2, .inl (cI, 8, .inl (c_this_terms 2))), (a_this_terms_r 3, .inl (cI, 8, .inl (c_this_terms 3))), (a_this_terms_r 4, .inl (cI, 8, .inl (c_this_terms 4))), (a_this_terms_r 5, .inl (cI, 8, .inl (c_this_terms 5))), (a_this_terms_r 6, .inl (cI, 8, .inl (c_this_terms 6))), (a_this_terms_r 7, .inl (cI, 8, .inl (c_this_terms 7))), (a_this_to, .inl (cI, 4, .inl c_this_to))] H locs → lv_has ls 6 [(2, .long v2_45e)] → W p l e rm_X5_scoreOf s m args below meth c H locs 0 0 Q (F0 m 112 ls []) := by
      intro v2_45e H locs ls hw hG hl
      have hw := hkx_45 _ hw
      refine lv_lload_n K.1 K.2.1 dX5_scoreOf_112 rfl (lv_at hl 0 rfl) ?_
      exact hret v2_45e () H locs _ ls dX5_scoreOf_113 hw hG
    have hL_45 : ∀ (n : Nat), ∀ (v2_45 : Int64) (v4_45 : Int32) (H : Heap) (locs : List Loc) (ls : Array Slot), Lp2 (b_X5_scoreOf_45 c_p1 c_this_columns c_this_aims c_this_costs c_this_from c_this_to post kx_45) n v2_45 v4_45 → HW (dC, dI) A s.heap [(a_p1, .inl (cI, 8, .inl c_p1)), (a_this, .inr (4, [.ref a_this_low, .ref a_this_high, .ref a_this_right, .ref a_this_terms, .ref a_this_from, .ref a_this_to, .ref a_this_costs, .int c_this_columns, .int c_this_rows, .int c_this_aims, .int c_this_points])), (a_this_costs, .inl (cG, 4, .inr (.inr (.inr (.inr (gro 4 a_this_costs_r)))))), (a_this_costs_r 0, .inl (cI, 8, .inl (c_this_costs 0))), (a_this_costs_r 1, .inl (cI, 8, .inl (c_this_costs 1))), (a_this_costs_r 2, .inl (cI, 8, .inl (c_this_costs 2))), (a_this_costs_r 3, .inl (cI, 8, .inl (c_this_costs 3))), (a_this_from, .inl (cI, 4, .inl c_this_from)), (a_this_right, .inl (cI, 8, .inl c_this_right)), (a_this_terms, .inl (cG, 8, .inr (.inr (.inr (.inr (gro 8 a_this_terms_r)))))), (a_this_terms_r 0, .inl (cI, 8, .inl (c_this_terms 0))), (a_this_terms_r 1, .inl (cI, 8, .inl (c_this_terms 1))), (a_this_terms_r 2, .inl (cI, 8, .inl (c_this_terms 2))), (a_this_terms_r 3, .inl (cI, 8, .inl (c_this_terms 3))), (a_this_terms_r 4, .inl (cI, 8, .inl (c_this_terms 4))), (a_this_terms_r 5, .inl (cI, 8, .inl (c_this_terms 5))), (a_this_terms_r 6, .inl (cI, 8, .inl (c_this_terms 6))), (a_this_terms_r 7, .inl (cI, 8, .inl (c_this_terms 7))), (a_this_to, .inl (cI, 4, .inl c_this_to))] H locs → lv_has ls 6 [(0, .ref a_this), (1, .ref a_p1), (2, .long v2_45), (4, .int v4_45)] → W p l e rm_X5_scoreOf s m args below meth c H locs 0 0 Q (F0 m 45 ls []) := by
      intro n
      induction n with
      | zero => intro v2_45 v4_45 H locs ls hw; exact False.elim hw
      | succ n ih_45 =>
        intro v2_45 v4_45 H locs ls hw hG hl
        obtain ⟨w_45, hw_45, hw⟩ : ∃ w' : Int64 → Int32 → Prop, (∀ v2_45 v4_45, w' v2_45 v4_45 → Lp2 (b_X5_scoreOf_45 c_p1 c_this_columns c_this_aims c_this_costs c_this_from c_this_to post kx_45) n v2_45 v4_45) ∧ b_X5_scoreOf_45 c_p1 c_this_columns c_this_aims c_this_costs c_this_from c_this_to post kx_45 w' v2_45 v4_45 := ⟨_, fun _ _ h => h, hw⟩
        replace ih_45 : ∀ (v2_45 : Int64) (v4_45 : Int32) (H : Heap) (locs : List Loc) (ls : Array Slot), w_45 v2_45 v4_45 → HW (dC, dI) A s.heap [(a_p1, .inl (cI, 8, .inl c_p1)), (a_this, .inr (4, [.ref a_this_low, .ref a_this_high, .ref a_this_right, .ref a_this_terms, .ref a_this_from, .ref a_this_to, .ref a_this_costs, .int c_this_columns, .int c_this_rows, .int c_this_aims, .int c_this_points])), (a_this_costs, .inl (cG, 4, .inr (.inr (.inr (.inr (gro 4 a_this_costs_r)))))), (a_this_costs_r 0, .inl (cI, 8, .inl (c_this_costs 0))), (a_this_costs_r 1, .inl (cI, 8, .inl (c_this_costs 1))), (a_this_costs_r 2, .inl (cI, 8, .inl (c_this_costs 2))), (a_this_costs_r 3, .inl (cI, 8, .inl (c_this_costs 3))), (a_this_from, .inl (cI, 4, .inl c_this_from)), (a_this_right, .inl (cI, 8, .inl c_this_right)), (a_this_terms, .inl (cG, 8, .inr (.inr (.inr (.inr (gro 8 a_this_terms_r)))))), (a_this_terms_r 0, .inl (cI, 8, .inl (c_this_terms 0))), (a_this_terms_r 1, .inl (cI, 8, .inl (c_this_terms 1))), (a_this_terms_r 2, .inl (cI, 8, .inl (c_this_terms 2))), (a_this_terms_r 3, .inl (cI, 8, .inl (c_this_terms 3))), (a_this_terms_r 4, .inl (cI, 8, .inl (c_this_terms 4))), (a_this_terms_r 5, .inl (cI, 8, .inl (c_this_terms 5))), (a_this_terms_r 6, .inl (cI, 8, .inl (c_this_terms 6))), (a_this_terms_r 7, .inl (cI, 8, .inl (c_this_terms 7))), (a_this_to, .inl (cI, 4, .inl c_this_to))] H locs → lv_has ls 6 [(0, .ref a_this), (1, .ref a_p1), (2, .long v2_45), (4, .int v4_45)] → W p l e rm_X5_scoreOf s m args below meth c H locs 0 0 Q (F0 m 45 ls []) := fun v2_45 v4_45 H locs ls h => ih_45 v2_45 v4_45 H locs ls (hw_45 _ _ h)
        unfold b_X5_scoreOf_45 at hw
        refine lv_iload K.1 K.2.1 dX5_scoreOf_45 (lv_at hl 3 rfl) ?_
        refine lv_aload_n K.1 K.2.1 dX5_scoreOf_47 rfl (lv_at hl 0 rfl) ?_
        refine g_get (v := .int c_this_aims) K hG hin_RX5 1 rfl rfl 9 (by decide) (K.2.2.2.2.1 (.fieldLink RX5 45 "AimFronts$Task" "aims" "I") (by decide +kernel)) rfl rfl dX5_scoreOf_48 ?_
        refine lv_icmp_ge (tgt := 112) K.1 K.2.1 dX5_scoreOf_51 (by decide) (fun q_51 => ?_) (fun q_51 => ?_)
        · have hw := hw.1 q_51
          exact hX_45 v2_45 H locs ls hw hG (lv_sub hl [2] rfl)
        · have hw := hw.2 q_51
          refine lv_aload_n K.1 K.2.1 dX5_scoreOf_54 rfl (lv_at hl 0 rfl) ?_
          refine lv_aload_n K.1 K.2.1 dX5_scoreOf_55 rfl (lv_at hl 0 rfl) ?_
          refine g_get (v := .ref a_this_costs) K hG hin_RX5 1 rfl rfl 6 (by decide) (K.2.2.2.2.1 (.fieldLink RX5 32 "AimFronts$Task" "costs" "[[I") (by decide +kernel)) rfl rfl dX5_scoreOf_56 ?_
          refine lv_iload K.1 K.2.1 dX5_scoreOf_59 (lv_at hl 3 rfl) ?_
          obtain ⟨h_61, hw⟩ := hw
          refine g_aald K hG 2 rfl h_61 dX5_scoreOf_61 ?_
          refine lv_aload_n K.1 K.2.1 dX5_scoreOf_62 rfl (lv_at hl 1 rfl) ?_
          refine g_ri K hG [3 + ((v4_45).toNatClampNeg), 0, 1] (co_4 (P := fun j => ([3 + j, 0, 1] : List Nat).map (fun i => ([(a_p1, .inl (cI, 8, .inl c_p1)), (a_this, .inr (4, [.ref a_this_low, .ref a_this_high, .ref a_this_right, .ref a_this_terms, .ref a_this_from, .ref a_this_to, .ref a_this_costs, .int c_this_columns, .int c_this_rows, .int c_this_aims, .int c_this_points])), (a_this_costs, .inl (cG, 4, .inr (.inr (.inr (.inr (gro 4 a_this_costs_r)))))), (a_this_costs_r 0, .inl (cI, 8, .inl (c_this_costs 0))), (a_this_costs_r 1, .inl (cI, 8, .inl (c_this_costs 1))), (a_this_costs_r 2, .inl (cI, 8, .inl (c_this_costs 2))), (a_this_costs_r 3, .inl (cI, 8, .inl (c_this_costs 3))), (a_this_from, .inl (cI, 4, .inl c_this_from)), (a_this_right, .inl (cI, 8, .inl c_this_right)), (a_this_terms, .inl (cG, 8, .inr (.inr (.inr (.inr (gro 8 a_this_terms_r)))))), (a_this_terms_r 0, .inl (cI, 8, .inl (c_this_terms 0))), (a_this_terms_r 1, .inl (cI, 8, .inl (c_this_terms 1))), (a_this_terms_r 2, .inl (cI, 8, .inl (c_this_terms 2))), (a_this_terms_r 3, .inl (cI, 8, .inl (c_this_terms 3))), (a_this_terms_r 4, .inl (cI, 8, .inl (c_this_terms 4))), (a_this_terms_r 5, .inl (cI, 8, .inl (c_this_terms 5))), (a_this_terms_r 6, .inl (cI, 8, .inl (c_this_terms 6))), (a_this_terms_r 7, .inl (cI, 8, .inl (c_this_terms 7))), (a_this_to, .inl (cI, 4, .inl c_this_to))] : va_W)[i]?) = ([((a_this_costs_r j), .inl (cI, 8, .inl (c_this_costs j))), (a_p1, .inl (cI, 8, .inl c_p1)), (a_this, .inr (4, [.ref a_this_low, .ref a_this_high, .ref a_this_right, .ref a_this_terms, .ref a_this_from, .ref a_this_to, .ref a_this_costs, .int c_this_columns, .int c_this_rows, .int c_this_aims, .int c_this_points]))] : va_W).map some) rfl rfl rfl rfl (vp_in_lt h_61)) (g_runV (As := [.ref (a_this_costs_r (v4_45).toNatClampNeg), .ref a_p1]) (rest := []) K hG hl [3 + ((v4_45).toNatClampNeg), 0, 1] (co_4 (P := fun j => ([3 + j, 0, 1] : List Nat).map (fun i => ([(a_p1, .inl (cI, 8, .inl c_p1)), (a_this, .inr (4, [.ref a_this_low, .ref a_this_high, .ref a_this_right, .ref a_this_terms, .ref a_this_from, .ref a_this_to, .ref a_this_costs, .int c_this_columns, .int c_this_rows, .int c_this_aims, .int c_this_points])), (a_this_costs, .inl (cG, 4, .inr (.inr (.inr (.inr (gro 4 a_this_costs_r)))))), (a_this_costs_r 0, .inl (cI, 8, .inl (c_this_costs 0))), (a_this_costs_r 1, .inl (cI, 8, .inl (c_this_costs 1))), (a_this_costs_r 2, .inl (cI, 8, .inl (c_this_costs 2))), (a_this_costs_r 3, .inl (cI, 8, .inl (c_this_costs 3))), (a_this_from, .inl (cI, 4, .inl c_this_from)), (a_this_right, .inl (cI, 8, .inl c_this_right)), (a_this_terms, .inl (cG, 8, .inr (.inr (.inr (.inr (gro 8 a_this_terms_r)))))), (a_this_terms_r 0, .inl (cI, 8, .inl (c_this_terms 0))), (a_this_terms_r 1, .inl (cI, 8, .inl (c_this_terms 1))), (a_this_terms_r 2, .inl (cI, 8, .inl (c_this_terms 2))), (a_this_terms_r 3, .inl (cI, 8, .inl (c_this_terms 3))), (a_this_terms_r 4, .inl (cI, 8, .inl (c_this_terms 4))), (a_this_terms_r 5, .inl (cI, 8, .inl (c_this_terms 5))), (a_this_terms_r 6, .inl (cI, 8, .inl (c_this_terms 6))), (a_this_terms_r 7, .inl (cI, 8, .inl (c_this_terms 7))), (a_this_to, .inl (cI, 4, .inl c_this_to))] : va_W)[i]?) = ([((a_this_costs_r j), .inl (cI, 8, .inl (c_this_costs j))), (a_p1, .inl (cI, 8, .inl c_p1)), (a_this, .inr (4, [.ref a_this_low, .ref a_this_high, .ref a_this_right, .ref a_this_terms, .ref a_this_from, .ref a_this_to, .ref a_this_costs, .int c_this_columns, .int c_this_rows, .int c_this_aims, .int c_this_points]))] : va_W).map some) rfl rfl rfl rfl (vp_in_lt h_61)) (co_4 (P := fun j => va_nd [3 + j, 0, 1] = true) rfl rfl rfl rfl (vp_in_lt h_61)) 1 rfl rfl (k_X5_sum l dC dI cI cJ cZ cG H.size (a_this_costs_r (v4_45).toNatClampNeg) a_p1 a_this a_this_low a_this_high a_this_right a_this_terms a_this_from a_this_to a_this_costs (c_this_costs ((v4_45).toNatClampNeg)) c_p1 c_this_aims c_this_columns c_this_points c_this_rows _ hw) (cwV 2 K.2.2.2.2.1 gX5_scoreOf_X5_sum rfl rfl rfl (by decide +kernel) ⟨by decide, by decide⟩) rfl rfl (Nat.le_of_ble_eq_true rfl) ⟨Nat.zero_le _, Nat.zero_le _⟩ dX5_scoreOf_63) (fun r_63 H locs hw hG => ?_)
          refine lv_istore (lv' := [(5, .int r_63), (0, .ref a_this), (1, .ref a_p1), (2, .long v2_45), (4, .int v4_45)]) K.1 K.2.1 dX5_scoreOf_66 hl (by decide) rfl (fun ls hl => ?_)
          refine lv_iload K.1 K.2.1 dX5_scoreOf_68 (lv_at hl 0 rfl) ?_
          refine lv_aload_n K.1 K.2.1 dX5_scoreOf_70 rfl (lv_at hl 1 rfl) ?_
          refine g_get (v := .ref a_this_from) K hG hin_RX5 1 rfl rfl 4 (by decide) (K.2.2.2.2.1 (.fieldLink RX5 26 "AimFronts$Task" "from" "[I") (by decide +kernel)) rfl rfl dX5_scoreOf_71 ?_
          refine lv_iload K.1 K.2.1 dX5_scoreOf_74 (lv_at hl 4 rfl) ?_
          obtain ⟨h_76, hw⟩ := hw
          refine g_iald K hG 7 rfl h_76 dX5_scoreOf_76 ?_
          refine lv_icmp_lt (tgt := 92) K.1 K.2.1 dX5_scoreOf_77 (by decide) (fun q_77 => ?_) (fun q_77 => ?_)
          · have hw := hw.1 q_77
            refine lv_ldc2 (v := -1) K.1 K.2.1 K.2.2.2.1 (K.2.2.2.2.1 (.constantLong RX5 64 (-1)) (by decide +kernel)) dX5_scoreOf_92 ?_
            exact hret (-1 : Int64) () H locs _ ls dX5_scoreOf_95 hw hG
          · have hw := hw.2 q_77
            refine lv_iload K.1 K.2.1 dX5_scoreOf_80 (lv_at hl 0 rfl) ?_
            refine lv_aload_n K.1 K.2.1 dX5_scoreOf_82 rfl (lv_at hl 1 rfl) ?_
            refine g_get (v := .ref a_this_to) K hG hin_RX5 1 rfl rfl 5 (by decide) (K.2.2.2.2.1 (.fieldLink RX5 29 "AimFronts$Task" "to" "[I") (by decide +kernel)) rfl rfl dX5_scoreOf_83 ?_
            refine lv_iload K.1 K.2.1 dX5_scoreOf_86 (lv_at hl 4 rfl) ?_
            obtain ⟨h_88, hw⟩ := hw
            refine g_iald K hG 18 rfl h_88 dX5_scoreOf_88 ?_
            refine lv_icmp_le (tgt := 96) K.1 K.2.1 dX5_scoreOf_89 (by decide) (fun q_89 => ?_) (fun q_89 => ?_)
            · have hw := hw.1 q_89
              refine lv_lload_n K.1 K.2.1 dX5_scoreOf_96 rfl (lv_at hl 3 rfl) ?_
              refine lv_iload K.1 K.2.1 dX5_scoreOf_97 (lv_at hl 4 rfl) ?_
              refine lv_iload K.1 K.2.1 dX5_scoreOf_99 (lv_at hl 0 rfl) ?_
              refine g_rl K hG [] rfl (g_runS (As := [.int v4_45, .int r_63]) (rest := [.long v2_45]) K hG hl [] rfl rfl (k_X4_lane l dC dI cI cJ cZ cG H.size v4_45 r_63 _ hw) (va_cwS 2 K.2.2.2.2.1 gX5_scoreOf_X4_lane rfl rfl rfl (by decide +kernel) ⟨by decide, by decide⟩) rfl rfl (Nat.le_of_ble_eq_true rfl) ⟨Nat.zero_le _, Nat.zero_le _⟩ dX5_scoreOf_101) (fun r_101 H locs hw hG => ?_)
              refine lv_ladd K.1 K.2.1 dX5_scoreOf_104 ?_
              refine lv_lstore_n (lv' := [(2, .long (v2_45 + r_101)), (5, .int r_63), (0, .ref a_this), (1, .ref a_p1), (4, .int v4_45)]) K.1 K.2.1 dX5_scoreOf_105 rfl hl (by decide) rfl (fun ls hl => ?_)
              refine lv_iinc (v := (v4_45 + (1 : Int32))) (lv' := [(4, .int (v4_45 + (1 : Int32))), (2, .long (v2_45 + r_101)), (5, .int r_63), (0, .ref a_this), (1, .ref a_p1)]) K.1 K.2.1 dX5_scoreOf_106 hl (k := 4) rfl rfl (by decide) rfl (fun ls hl => ?_)
              refine lv_goto (tgt := 45) K.1 K.2.1 dX5_scoreOf_109 (by decide) ?_
              exact ih_45 (v2_45 + r_101) (v4_45 + (1 : Int32)) H locs ls hw hG (lv_sub hl [3, 4, 1, 0] rfl)
            · have hw := hw.2 q_89
              refine lv_ldc2 (v := -1) K.1 K.2.1 K.2.2.2.1 (K.2.2.2.2.1 (.constantLong RX5 64 (-1)) (by decide +kernel)) dX5_scoreOf_92 ?_
              exact hret (-1 : Int64) () H locs _ ls dX5_scoreOf_95 hw hG
    exact hL_45 n_45 (0 : Int64) (0 : Int32) H locs ls hw hG (lv_sub hl [2, 3, 1, 0] rfl)
  have hL_2 : ∀ (n : Nat), ∀ (v2_2 : Int32) (H : Heap) (locs : List Loc) (ls : Array Slot), Lp1 (b_X5_scoreOf_2 c_p1 c_this_columns c_this_rows c_this_right c_this_terms post kx_2) n v2_2 → HW (dC, dI) A s.heap [(a_p1, .inl (cI, 8, .inl c_p1)), (a_this, .inr (4, [.ref a_this_low, .ref a_this_high, .ref a_this_right, .ref a_this_terms, .ref a_this_from, .ref a_this_to, .ref a_this_costs, .int c_this_columns, .int c_this_rows, .int c_this_aims, .int c_this_points])), (a_this_costs, .inl (cG, 4, .inr (.inr (.inr (.inr (gro 4 a_this_costs_r)))))), (a_this_costs_r 0, .inl (cI, 8, .inl (c_this_costs 0))), (a_this_costs_r 1, .inl (cI, 8, .inl (c_this_costs 1))), (a_this_costs_r 2, .inl (cI, 8, .inl (c_this_costs 2))), (a_this_costs_r 3, .inl (cI, 8, .inl (c_this_costs 3))), (a_this_from, .inl (cI, 4, .inl c_this_from)), (a_this_right, .inl (cI, 8, .inl c_this_right)), (a_this_terms, .inl (cG, 8, .inr (.inr (.inr (.inr (gro 8 a_this_terms_r)))))), (a_this_terms_r 0, .inl (cI, 8, .inl (c_this_terms 0))), (a_this_terms_r 1, .inl (cI, 8, .inl (c_this_terms 1))), (a_this_terms_r 2, .inl (cI, 8, .inl (c_this_terms 2))), (a_this_terms_r 3, .inl (cI, 8, .inl (c_this_terms 3))), (a_this_terms_r 4, .inl (cI, 8, .inl (c_this_terms 4))), (a_this_terms_r 5, .inl (cI, 8, .inl (c_this_terms 5))), (a_this_terms_r 6, .inl (cI, 8, .inl (c_this_terms 6))), (a_this_terms_r 7, .inl (cI, 8, .inl (c_this_terms 7))), (a_this_to, .inl (cI, 4, .inl c_this_to))] H locs → lv_has ls 6 [(0, .ref a_this), (1, .ref a_p1), (2, .int v2_2)] → W p l e rm_X5_scoreOf s m args below meth c H locs 0 0 Q (F0 m 2 ls []) := by
    intro n
    induction n with
    | zero => intro v2_2 H locs ls hw; exact False.elim hw
    | succ n ih_2 =>
      intro v2_2 H locs ls hw hG hl
      obtain ⟨w_2, hw_2, hw⟩ : ∃ w' : Int32 → Prop, (∀ v2_2, w' v2_2 → Lp1 (b_X5_scoreOf_2 c_p1 c_this_columns c_this_rows c_this_right c_this_terms post kx_2) n v2_2) ∧ b_X5_scoreOf_2 c_p1 c_this_columns c_this_rows c_this_right c_this_terms post kx_2 w' v2_2 := ⟨_, fun _ h => h, hw⟩
      replace ih_2 : ∀ (v2_2 : Int32) (H : Heap) (locs : List Loc) (ls : Array Slot), w_2 v2_2 → HW (dC, dI) A s.heap [(a_p1, .inl (cI, 8, .inl c_p1)), (a_this, .inr (4, [.ref a_this_low, .ref a_this_high, .ref a_this_right, .ref a_this_terms, .ref a_this_from, .ref a_this_to, .ref a_this_costs, .int c_this_columns, .int c_this_rows, .int c_this_aims, .int c_this_points])), (a_this_costs, .inl (cG, 4, .inr (.inr (.inr (.inr (gro 4 a_this_costs_r)))))), (a_this_costs_r 0, .inl (cI, 8, .inl (c_this_costs 0))), (a_this_costs_r 1, .inl (cI, 8, .inl (c_this_costs 1))), (a_this_costs_r 2, .inl (cI, 8, .inl (c_this_costs 2))), (a_this_costs_r 3, .inl (cI, 8, .inl (c_this_costs 3))), (a_this_from, .inl (cI, 4, .inl c_this_from)), (a_this_right, .inl (cI, 8, .inl c_this_right)), (a_this_terms, .inl (cG, 8, .inr (.inr (.inr (.inr (gro 8 a_this_terms_r)))))), (a_this_terms_r 0, .inl (cI, 8, .inl (c_this_terms 0))), (a_this_terms_r 1, .inl (cI, 8, .inl (c_this_terms 1))), (a_this_terms_r 2, .inl (cI, 8, .inl (c_this_terms 2))), (a_this_terms_r 3, .inl (cI, 8, .inl (c_this_terms 3))), (a_this_terms_r 4, .inl (cI, 8, .inl (c_this_terms 4))), (a_this_terms_r 5, .inl (cI, 8, .inl (c_this_terms 5))), (a_this_terms_r 6, .inl (cI, 8, .inl (c_this_terms 6))), (a_this_terms_r 7, .inl (cI, 8, .inl (c_this_terms 7))), (a_this_to, .inl (cI, 4, .inl c_this_to))] H locs → lv_has ls 6 [(0, .ref a_this), (1, .ref a_p1), (2, .int v2_2)] → W p l e rm_X5_scoreOf s m args below meth c H locs 0 0 Q (F0 m 2 ls []) := fun v2_2 H locs ls h => ih_2 v2_2 H locs ls (hw_2 _ h)
      unfold b_X5_scoreOf_2 at hw
      refine lv_iload_n K.1 K.2.1 dX5_scoreOf_2 rfl (lv_at hl 2 rfl) ?_
      refine lv_aload_n K.1 K.2.1 dX5_scoreOf_3 rfl (lv_at hl 0 rfl) ?_
      refine g_get (v := .int c_this_rows) K hG hin_RX5 1 rfl rfl 8 (by decide) (K.2.2.2.2.1 (.fieldLink RX5 42 "AimFronts$Task" "rows" "I") (by decide +kernel)) rfl rfl dX5_scoreOf_4 ?_
      refine lv_icmp_ge (tgt := 40) K.1 K.2.1 dX5_scoreOf_7 (by decide) (fun q_7 => ?_) (fun q_7 => ?_)
      · have hw := hw.1 q_7
        exact hX_2 H locs ls hw hG (lv_sub hl [0, 1] rfl)
      · have hw := hw.2 q_7
        refine lv_aload_n K.1 K.2.1 dX5_scoreOf_10 rfl (lv_at hl 0 rfl) ?_
        refine lv_aload_n K.1 K.2.1 dX5_scoreOf_11 rfl (lv_at hl 0 rfl) ?_
        refine g_get (v := .ref a_this_terms) K hG hin_RX5 1 rfl rfl 3 (by decide) (K.2.2.2.2.1 (.fieldLink RX5 23 "AimFronts$Task" "terms" "[[I") (by decide +kernel)) rfl rfl dX5_scoreOf_12 ?_
        refine lv_iload_n K.1 K.2.1 dX5_scoreOf_15 rfl (lv_at hl 2 rfl) ?_
        obtain ⟨h_16, hw⟩ := hw
        refine g_aald K hG 9 rfl h_16 dX5_scoreOf_16 ?_
        refine lv_aload_n K.1 K.2.1 dX5_scoreOf_17 rfl (lv_at hl 1 rfl) ?_
        refine g_ri K hG [10 + ((v2_2).toNatClampNeg), 0, 1] (co_8 (P := fun j => ([10 + j, 0, 1] : List Nat).map (fun i => ([(a_p1, .inl (cI, 8, .inl c_p1)), (a_this, .inr (4, [.ref a_this_low, .ref a_this_high, .ref a_this_right, .ref a_this_terms, .ref a_this_from, .ref a_this_to, .ref a_this_costs, .int c_this_columns, .int c_this_rows, .int c_this_aims, .int c_this_points])), (a_this_costs, .inl (cG, 4, .inr (.inr (.inr (.inr (gro 4 a_this_costs_r)))))), (a_this_costs_r 0, .inl (cI, 8, .inl (c_this_costs 0))), (a_this_costs_r 1, .inl (cI, 8, .inl (c_this_costs 1))), (a_this_costs_r 2, .inl (cI, 8, .inl (c_this_costs 2))), (a_this_costs_r 3, .inl (cI, 8, .inl (c_this_costs 3))), (a_this_from, .inl (cI, 4, .inl c_this_from)), (a_this_right, .inl (cI, 8, .inl c_this_right)), (a_this_terms, .inl (cG, 8, .inr (.inr (.inr (.inr (gro 8 a_this_terms_r)))))), (a_this_terms_r 0, .inl (cI, 8, .inl (c_this_terms 0))), (a_this_terms_r 1, .inl (cI, 8, .inl (c_this_terms 1))), (a_this_terms_r 2, .inl (cI, 8, .inl (c_this_terms 2))), (a_this_terms_r 3, .inl (cI, 8, .inl (c_this_terms 3))), (a_this_terms_r 4, .inl (cI, 8, .inl (c_this_terms 4))), (a_this_terms_r 5, .inl (cI, 8, .inl (c_this_terms 5))), (a_this_terms_r 6, .inl (cI, 8, .inl (c_this_terms 6))), (a_this_terms_r 7, .inl (cI, 8, .inl (c_this_terms 7))), (a_this_to, .inl (cI, 4, .inl c_this_to))] : va_W)[i]?) = ([((a_this_terms_r j), .inl (cI, 8, .inl (c_this_terms j))), (a_p1, .inl (cI, 8, .inl c_p1)), (a_this, .inr (4, [.ref a_this_low, .ref a_this_high, .ref a_this_right, .ref a_this_terms, .ref a_this_from, .ref a_this_to, .ref a_this_costs, .int c_this_columns, .int c_this_rows, .int c_this_aims, .int c_this_points]))] : va_W).map some) rfl rfl rfl rfl rfl rfl rfl rfl (vp_in_lt h_16)) (g_runV (As := [.ref (a_this_terms_r (v2_2).toNatClampNeg), .ref a_p1]) (rest := []) K hG hl [10 + ((v2_2).toNatClampNeg), 0, 1] (co_8 (P := fun j => ([10 + j, 0, 1] : List Nat).map (fun i => ([(a_p1, .inl (cI, 8, .inl c_p1)), (a_this, .inr (4, [.ref a_this_low, .ref a_this_high, .ref a_this_right, .ref a_this_terms, .ref a_this_from, .ref a_this_to, .ref a_this_costs, .int c_this_columns, .int c_this_rows, .int c_this_aims, .int c_this_points])), (a_this_costs, .inl (cG, 4, .inr (.inr (.inr (.inr (gro 4 a_this_costs_r)))))), (a_this_costs_r 0, .inl (cI, 8, .inl (c_this_costs 0))), (a_this_costs_r 1, .inl (cI, 8, .inl (c_this_costs 1))), (a_this_costs_r 2, .inl (cI, 8, .inl (c_this_costs 2))), (a_this_costs_r 3, .inl (cI, 8, .inl (c_this_costs 3))), (a_this_from, .inl (cI, 4, .inl c_this_from)), (a_this_right, .inl (cI, 8, .inl c_this_right)), (a_this_terms, .inl (cG, 8, .inr (.inr (.inr (.inr (gro 8 a_this_terms_r)))))), (a_this_terms_r 0, .inl (cI, 8, .inl (c_this_terms 0))), (a_this_terms_r 1, .inl (cI, 8, .inl (c_this_terms 1))), (a_this_terms_r 2, .inl (cI, 8, .inl (c_this_terms 2))), (a_this_terms_r 3, .inl (cI, 8, .inl (c_this_terms 3))), (a_this_terms_r 4, .inl (cI, 8, .inl (c_this_terms 4))), (a_this_terms_r 5, .inl (cI, 8, .inl (c_this_terms 5))), (a_this_terms_r 6, .inl (cI, 8, .inl (c_this_terms 6))), (a_this_terms_r 7, .inl (cI, 8, .inl (c_this_terms 7))), (a_this_to, .inl (cI, 4, .inl c_this_to))] : va_W)[i]?) = ([((a_this_terms_r j), .inl (cI, 8, .inl (c_this_terms j))), (a_p1, .inl (cI, 8, .inl c_p1)), (a_this, .inr (4, [.ref a_this_low, .ref a_this_high, .ref a_this_right, .ref a_this_terms, .ref a_this_from, .ref a_this_to, .ref a_this_costs, .int c_this_columns, .int c_this_rows, .int c_this_aims, .int c_this_points]))] : va_W).map some) rfl rfl rfl rfl rfl rfl rfl rfl (vp_in_lt h_16)) (co_8 (P := fun j => va_nd [10 + j, 0, 1] = true) rfl rfl rfl rfl rfl rfl rfl rfl (vp_in_lt h_16)) 1 rfl rfl (k_X5_sum l dC dI cI cJ cZ cG H.size (a_this_terms_r (v2_2).toNatClampNeg) a_p1 a_this a_this_low a_this_high a_this_right a_this_terms a_this_from a_this_to a_this_costs (c_this_terms ((v2_2).toNatClampNeg)) c_p1 c_this_aims c_this_columns c_this_points c_this_rows _ hw) (cwV 2 K.2.2.2.2.1 gX5_scoreOf_X5_sum rfl rfl rfl (by decide +kernel) ⟨by decide, by decide⟩) rfl rfl (Nat.le_of_ble_eq_true rfl) ⟨Nat.zero_le _, Nat.zero_le _⟩ dX5_scoreOf_18) (fun r_18 H locs hw hG => ?_)
        refine lv_aload_n K.1 K.2.1 dX5_scoreOf_21 rfl (lv_at hl 0 rfl) ?_
        refine g_get (v := .ref a_this_right) K hG hin_RX5 1 rfl rfl 2 (by decide) (K.2.2.2.2.1 (.fieldLink RX5 18 "AimFronts$Task" "right" "[I") (by decide +kernel)) rfl rfl dX5_scoreOf_22 ?_
        refine lv_iload_n K.1 K.2.1 dX5_scoreOf_25 rfl (lv_at hl 2 rfl) ?_
        obtain ⟨h_26, hw⟩ := hw
        refine g_iald K hG 8 rfl h_26 dX5_scoreOf_26 ?_
        refine lv_icmp_le (tgt := 34) K.1 K.2.1 dX5_scoreOf_27 (by decide) (fun q_27 => ?_) (fun q_27 => ?_)
        · have hw := hw.1 q_27
          refine lv_iinc (v := (v2_2 + (1 : Int32))) (lv' := [(2, .int (v2_2 + (1 : Int32))), (0, .ref a_this), (1, .ref a_p1)]) K.1 K.2.1 dX5_scoreOf_34 hl (k := 2) rfl rfl (by decide) rfl (fun ls hl => ?_)
          refine lv_goto (tgt := 2) K.1 K.2.1 dX5_scoreOf_37 (by decide) ?_
          exact ih_2 (v2_2 + (1 : Int32)) H locs ls hw hG (lv_sub hl [1, 2, 0] rfl)
        · have hw := hw.2 q_27
          refine lv_ldc2 (v := -1) K.1 K.2.1 K.2.2.2.1 (K.2.2.2.2.1 (.constantLong RX5 64 (-1)) (by decide +kernel)) dX5_scoreOf_30 ?_
          exact hret (-1 : Int64) () H locs _ ls dX5_scoreOf_33 hw hG
  exact hL_2 n_2 (0 : Int32) H locs ls hw hG (lv_sub hl [1, 2, 0] rfl)
abbrev rm_X3_placeOf : Room := { frames := 0, cells := 0, slots := 0, locals := 0 }
set_option maxHeartbeats 4000000 in
set_option maxRecDepth 100000 in
theorem k_X3_placeOf (l : Launch) (dC : Nat → ClassId) (dI : Nat → Nat → Nat) (cI cJ cZ cG : ClassId) (sz : Nat) (a_this a_this_scores a_this_points a_this_counts a_this_ideals a_this_scales : Nat) (c_this_scores : Nat → Int64) (c_this_size : Int32) (x1 : Int64) (post : Int32 → Prop) (hw : wp_X3_placeOf c_this_scores c_this_size x1 post) : MetI l yX3_placeOf wsX3_placeOf rm_X3_placeOf (dC, dI) cI cJ cZ cG [.ref a_this, .long x1] sz [(a_this, .inr (3, [.ref a_this_scores, .ref a_this_points, .ref a_this_counts, .int c_this_size, .ref a_this_ideals, .ref a_this_scales])), (a_this_scores, .inl (cJ, 2000, .inr (.inl c_this_scores)))] (fun (r : Int32) (u : Unit) => post r) (fun u => [(a_this, .inr (3, [.ref a_this_scores, .ref a_this_points, .ref a_this_counts, .int c_this_size, .ref a_this_ideals, .ref a_this_scales])), (a_this_scores, .inl (cJ, 2000, .inr (.inl c_this_scores)))]) := by
  refine met_i (ty := .int) (Or.inl rfl) (cc := cX3_placeOf) (maxL := 6) (by decide) rfl (Nat.le_of_ble_eq_true rfl) ?_
  intro p e s m args below meth c A Q H locs ls K hG hl hret
  have hl : lv_has ls 6 [(0, .ref a_this), (1, .long x1)] := hl
  have hin_RX3 : ∀ w ∈ u_ws RX3 TX3 6, w ∈ wsX3_placeOf := by decide +kernel
  unfold wp_X3_placeOf at hw
  refine lv_iconst (v := 0) K.1 K.2.1 dX3_placeOf_0 (by decide) ?_
  refine lv_istore_n (lv' := [(3, .int (0 : Int32)), (0, .ref a_this), (1, .long x1)]) K.1 K.2.1 dX3_placeOf_1 rfl hl (by decide) rfl (fun ls hl => ?_)
  refine lv_aload_n K.1 K.2.1 dX3_placeOf_2 rfl (lv_at hl 1 rfl) ?_
  refine g_get (v := .int c_this_size) K hG hin_RX3 0 rfl rfl 3 (by decide) (K.2.2.2.2.1 (.fieldLink RX3 32 "AimFronts$Front" "size" "I") (by decide +kernel)) rfl rfl dX3_placeOf_3 ?_
  refine lv_istore (lv' := [(4, .int c_this_size), (3, .int (0 : Int32)), (0, .ref a_this), (1, .long x1)]) K.1 K.2.1 dX3_placeOf_6 hl (by decide) rfl (fun ls hl => ?_)
  obtain ⟨kx_8, hkx_8, n_8, hw⟩ := Lx1_2_abs hw
  have hX_8 : ∀ (v3_8e : Int32) (H : Heap) (locs : List Loc) (ls : Array Slot), kx_8 v3_8e → HW (dC, dI) A s.heap [(a_this, .inr (3, [.ref a_this_scores, .ref a_this_points, .ref a_this_counts, .int c_this_size, .ref a_this_ideals, .ref a_this_scales])), (a_this_scores, .inl (cJ, 2000, .inr (.inl c_this_scores)))] H locs → lv_has ls 6 [(3, .int v3_8e)] → W p l e rm_X3_placeOf s m args below meth c H locs 0 0 Q (F0 m 49 ls []) := by
    intro v3_8e H locs ls hw hG hl
    have hw := hkx_8 _ hw
    refine lv_iload_n K.1 K.2.1 dX3_placeOf_49 rfl (lv_at hl 0 rfl) ?_
    exact hret v3_8e () H locs _ ls dX3_placeOf_50 rfl hw hG
  have hL_8 : ∀ (n : Nat), ∀ (v3_8 : Int32) (v4_8 : Int32) (H : Heap) (locs : List Loc) (ls : Array Slot), Lp2 (b_X3_placeOf_8 c_this_scores x1 kx_8) n v3_8 v4_8 → HW (dC, dI) A s.heap [(a_this, .inr (3, [.ref a_this_scores, .ref a_this_points, .ref a_this_counts, .int c_this_size, .ref a_this_ideals, .ref a_this_scales])), (a_this_scores, .inl (cJ, 2000, .inr (.inl c_this_scores)))] H locs → lv_has ls 6 [(0, .ref a_this), (1, .long x1), (3, .int v3_8), (4, .int v4_8)] → W p l e rm_X3_placeOf s m args below meth c H locs 0 0 Q (F0 m 8 ls []) := by
    intro n
    induction n with
    | zero => intro v3_8 v4_8 H locs ls hw; exact False.elim hw
    | succ n ih_8 =>
      intro v3_8 v4_8 H locs ls hw hG hl
      obtain ⟨w_8, hw_8, hw⟩ : ∃ w' : Int32 → Int32 → Prop, (∀ v3_8 v4_8, w' v3_8 v4_8 → Lp2 (b_X3_placeOf_8 c_this_scores x1 kx_8) n v3_8 v4_8) ∧ b_X3_placeOf_8 c_this_scores x1 kx_8 w' v3_8 v4_8 := ⟨_, fun _ _ h => h, hw⟩
      replace ih_8 : ∀ (v3_8 : Int32) (v4_8 : Int32) (H : Heap) (locs : List Loc) (ls : Array Slot), w_8 v3_8 v4_8 → HW (dC, dI) A s.heap [(a_this, .inr (3, [.ref a_this_scores, .ref a_this_points, .ref a_this_counts, .int c_this_size, .ref a_this_ideals, .ref a_this_scales])), (a_this_scores, .inl (cJ, 2000, .inr (.inl c_this_scores)))] H locs → lv_has ls 6 [(0, .ref a_this), (1, .long x1), (3, .int v3_8), (4, .int v4_8)] → W p l e rm_X3_placeOf s m args below meth c H locs 0 0 Q (F0 m 8 ls []) := fun v3_8 v4_8 H locs ls h => ih_8 v3_8 v4_8 H locs ls (hw_8 _ _ h)
      unfold b_X3_placeOf_8 at hw
      refine lv_iload_n K.1 K.2.1 dX3_placeOf_8 rfl (lv_at hl 2 rfl) ?_
      refine lv_iload K.1 K.2.1 dX3_placeOf_9 (lv_at hl 3 rfl) ?_
      refine lv_icmp_ge (tgt := 49) K.1 K.2.1 dX3_placeOf_11 (by decide) (fun q_11 => ?_) (fun q_11 => ?_)
      · have hw := hw.1 q_11
        exact hX_8 v3_8 H locs ls hw hG (lv_sub hl [2] rfl)
      · have hw := hw.2 q_11
        refine lv_iload_n K.1 K.2.1 dX3_placeOf_14 rfl (lv_at hl 2 rfl) ?_
        refine lv_iload K.1 K.2.1 dX3_placeOf_15 (lv_at hl 3 rfl) ?_
        refine lv_iadd K.1 K.2.1 dX3_placeOf_17 ?_
        refine lv_iconst (v := 1) K.1 K.2.1 dX3_placeOf_18 (by decide) ?_
        refine lv_iushr K.1 K.2.1 dX3_placeOf_19 rfl ?_
        refine lv_istore (lv' := [(5, .int ((((v3_8 + v4_8)).toUInt32 >>> (((1 : Int32)).toUInt32 &&& Int32.toUInt32 31)).toInt32)), (0, .ref a_this), (1, .long x1), (3, .int v3_8), (4, .int v4_8)]) K.1 K.2.1 dX3_placeOf_20 hl (by decide) rfl (fun ls hl => ?_)
        refine lv_aload_n K.1 K.2.1 dX3_placeOf_22 rfl (lv_at hl 1 rfl) ?_
        refine g_get (v := .ref a_this_scores) K hG hin_RX3 0 rfl rfl 0 (by decide) (K.2.2.2.2.1 (.fieldLink RX3 9 "AimFronts$Front" "scores" "[J") (by decide +kernel)) rfl rfl dX3_placeOf_23 ?_
        refine lv_iload K.1 K.2.1 dX3_placeOf_26 (lv_at hl 0 rfl) ?_
        obtain ⟨h_28, hw⟩ := hw
        refine g_lald K hG 1 rfl h_28 dX3_placeOf_28 ?_
        refine lv_lload_n K.1 K.2.1 dX3_placeOf_29 rfl (lv_at hl 2 rfl) ?_
        refine W.lcmp K.1 K.2.1 dX3_placeOf_30 ?_
        refine lv_if_ge (tgt := 42) K.1 K.2.1 dX3_placeOf_31 (by decide) (fun q_31 => ?_) (fun q_31 => ?_)
        · have hw := hw.1 ((lg_cmp_ge _ _).mp q_31)
          refine lv_iload K.1 K.2.1 dX3_placeOf_42 (lv_at hl 0 rfl) ?_
          refine lv_istore (lv' := [(4, .int ((((v3_8 + v4_8)).toUInt32 >>> (((1 : Int32)).toUInt32 &&& Int32.toUInt32 31)).toInt32)), (5, .int ((((v3_8 + v4_8)).toUInt32 >>> (((1 : Int32)).toUInt32 &&& Int32.toUInt32 31)).toInt32)), (0, .ref a_this), (1, .long x1), (3, .int v3_8)]) K.1 K.2.1 dX3_placeOf_44 hl (by decide) rfl (fun ls hl => ?_)
          refine lv_goto (tgt := 8) K.1 K.2.1 dX3_placeOf_46 (by decide) ?_
          exact ih_8 v3_8 ((((v3_8 + v4_8)).toUInt32 >>> (((1 : Int32)).toUInt32 &&& Int32.toUInt32 31)).toInt32) H locs ls hw hG (lv_sub hl [2, 3, 4, 0] rfl)
        · have hw := hw.2 (fun h9 => q_31 ((lg_cmp_ge _ _).mpr h9))
          refine lv_iload K.1 K.2.1 dX3_placeOf_34 (lv_at hl 0 rfl) ?_
          refine lv_iconst (v := 1) K.1 K.2.1 dX3_placeOf_36 (by decide) ?_
          refine lv_iadd K.1 K.2.1 dX3_placeOf_37 ?_
          refine lv_istore_n (lv' := [(3, .int (((((v3_8 + v4_8)).toUInt32 >>> (((1 : Int32)).toUInt32 &&& Int32.toUInt32 31)).toInt32) + (1 : Int32))), (5, .int ((((v3_8 + v4_8)).toUInt32 >>> (((1 : Int32)).toUInt32 &&& Int32.toUInt32 31)).toInt32)), (0, .ref a_this), (1, .long x1), (4, .int v4_8)]) K.1 K.2.1 dX3_placeOf_38 rfl hl (by decide) rfl (fun ls hl => ?_)
          refine lv_goto (tgt := 46) K.1 K.2.1 dX3_placeOf_39 (by decide) ?_
          refine lv_goto (tgt := 8) K.1 K.2.1 dX3_placeOf_46 (by decide) ?_
          exact ih_8 (((((v3_8 + v4_8)).toUInt32 >>> (((1 : Int32)).toUInt32 &&& Int32.toUInt32 31)).toInt32) + (1 : Int32)) v4_8 H locs ls hw hG (lv_sub hl [2, 3, 0, 4] rfl)
  exact hL_8 n_8 (0 : Int32) c_this_size H locs ls hw hG (lv_sub hl [2, 3, 1, 0] rfl)
abbrev rm_X4_inNoneGreater : Room := { frames := 0, cells := 0, slots := 0, locals := 0 }
set_option maxHeartbeats 4000000 in
set_option maxRecDepth 100000 in
theorem k_X4_inNoneGreater (l : Launch) (dC : Nat → ClassId) (dI : Nat → Nat → Nat) (cI cJ cZ cG : ClassId) (sz : Nat) (x0 : Int64) (x2 : Int64) (post : Int32 → Prop) (hw : wp_X4_inNoneGreater x0 x2 post) : MetI l yX4_inNoneGreater wsX4_inNoneGreater rm_X4_inNoneGreater (dC, dI) cI cJ cZ cG [.long x0, .long x2] sz [] (fun (r : Int32) (u : Unit) => post r) (fun u => []) := by
  refine met_i (ty := .boolean) (Or.inr rfl) (cc := cX4_inNoneGreater) (maxL := 4) (by decide) rfl (Nat.le_of_ble_eq_true rfl) ?_
  intro p e s m args below meth c A Q H locs ls K hG hl hret
  have hl : lv_has ls 4 [(0, .long x0), (2, .long x2)] := hl
  unfold wp_X4_inNoneGreater at hw
  refine lv_lload_n K.1 K.2.1 dX4_inNoneGreater_0 rfl (lv_at hl 1 rfl) ?_
  refine lv_ldc2 (v := 4611756388245323776) K.1 K.2.1 K.2.2.2.1 (K.2.2.2.2.1 (.constantLong RX4 15 (4611756388245323776)) (by decide +kernel)) dX4_inNoneGreater_1 ?_
  refine lv_ladd K.1 K.2.1 dX4_inNoneGreater_4 ?_
  refine lv_lload_n K.1 K.2.1 dX4_inNoneGreater_5 rfl (lv_at hl 0 rfl) ?_
  refine lv_lsub K.1 K.2.1 dX4_inNoneGreater_6 ?_
  refine lv_ldc2 (v := 4611756388245323776) K.1 K.2.1 K.2.2.2.1 (K.2.2.2.2.1 (.constantLong RX4 15 (4611756388245323776)) (by decide +kernel)) dX4_inNoneGreater_7 ?_
  refine lv_land K.1 K.2.1 dX4_inNoneGreater_10 ?_
  refine lv_ldc2 (v := 4611756388245323776) K.1 K.2.1 K.2.2.2.1 (K.2.2.2.2.1 (.constantLong RX4 15 (4611756388245323776)) (by decide +kernel)) dX4_inNoneGreater_11 ?_
  refine W.lcmp K.1 K.2.1 dX4_inNoneGreater_14 ?_
  refine lv_if_ne (tgt := 22) K.1 K.2.1 dX4_inNoneGreater_15 (by decide) (fun q_15 => ?_) (fun q_15 => ?_)
  · have hw := hw.2 (fun h9 => q_15 ((lg_cmp_eq _ _).mpr h9))
    refine lv_iconst (v := 0) K.1 K.2.1 dX4_inNoneGreater_22 (by decide) ?_
    exact hret (0 : Int32) () H locs _ ls dX4_inNoneGreater_23 rfl hw hG
  · have hw := hw.1 ((lg_cmp_eq _ _).mp q_15)
    refine lv_iconst (v := 1) K.1 K.2.1 dX4_inNoneGreater_18 (by decide) ?_
    refine lv_goto (tgt := 23) K.1 K.2.1 dX4_inNoneGreater_19 (by decide) ?_
    exact hret (1 : Int32) () H locs _ ls dX4_inNoneGreater_23 rfl hw hG
abbrev rm_X3_isBeaten : Room := { frames := 1, cells := 0, slots := 0, locals := 23 }
set_option maxHeartbeats 4000000 in
set_option maxRecDepth 100000 in
theorem k_X3_isBeaten (l : Launch) (dC : Nat → ClassId) (dI : Nat → Nat → Nat) (cI cJ cZ cG : ClassId) (sz : Nat) (a_this a_this_scores a_this_points a_this_counts a_this_ideals a_this_scales : Nat) (c_this_scores : Nat → Int64) (c_this_size : Int32) (x1 : Int64) (x3 : Int32) (post : Int32 → Prop) (hw : wp_X3_isBeaten c_this_scores x1 x3 post) : MetI l yX3_isBeaten wsX3_isBeaten rm_X3_isBeaten (dC, dI) cI cJ cZ cG [.ref a_this, .long x1, .int x3] sz [(a_this, .inr (3, [.ref a_this_scores, .ref a_this_points, .ref a_this_counts, .int c_this_size, .ref a_this_ideals, .ref a_this_scales])), (a_this_scores, .inl (cJ, 2000, .inr (.inl c_this_scores)))] (fun (r : Int32) (u : Unit) => post r) (fun u => [(a_this, .inr (3, [.ref a_this_scores, .ref a_this_points, .ref a_this_counts, .int c_this_size, .ref a_this_ideals, .ref a_this_scales])), (a_this_scores, .inl (cJ, 2000, .inr (.inl c_this_scores)))]) := by
  refine met_i (ty := .boolean) (Or.inr rfl) (cc := cX3_isBeaten) (maxL := 5) (by decide) rfl (Nat.le_of_ble_eq_true rfl) ?_
  intro p e s m args below meth c A Q H locs ls K hG hl hret
  have hl : lv_has ls 5 [(0, .ref a_this), (1, .long x1), (3, .int x3)] := hl
  have hin_RX3 : ∀ w ∈ u_ws RX3 TX3 6, w ∈ wsX3_isBeaten := by decide +kernel
  unfold wp_X3_isBeaten at hw
  refine lv_iconst (v := 0) K.1 K.2.1 dX3_isBeaten_0 (by decide) ?_
  refine lv_istore (lv' := [(4, .int (0 : Int32)), (0, .ref a_this), (1, .long x1), (3, .int x3)]) K.1 K.2.1 dX3_isBeaten_1 hl (by decide) rfl (fun ls hl => ?_)
  obtain ⟨kx_3, hkx_3, n_3, hw⟩ := Lx0_1_abs hw
  have hX_3 : ∀  (H : Heap) (locs : List Loc) (ls : Array Slot), kx_3 → HW (dC, dI) A s.heap [(a_this, .inr (3, [.ref a_this_scores, .ref a_this_points, .ref a_this_counts, .int c_this_size, .ref a_this_ideals, .ref a_this_scales])), (a_this_scores, .inl (cJ, 2000, .inr (.inl c_this_scores)))] H locs → lv_has ls 5 [] → W p l e rm_X3_isBeaten s m args below meth c H locs 0 0 Q (F0 m 31 ls []) := by
    intro H locs ls hw hG hl
    have hw := hkx_3 hw
    refine lv_iconst (v := 0) K.1 K.2.1 dX3_isBeaten_31 (by decide) ?_
    exact hret (0 : Int32) () H locs _ ls dX3_isBeaten_32 rfl hw hG
  have hL_3 : ∀ (n : Nat), ∀ (v4_3 : Int32) (H : Heap) (locs : List Loc) (ls : Array Slot), Lp1 (b_X3_isBeaten_3 c_this_scores x1 x3 post kx_3) n v4_3 → HW (dC, dI) A s.heap [(a_this, .inr (3, [.ref a_this_scores, .ref a_this_points, .ref a_this_counts, .int c_this_size, .ref a_this_ideals, .ref a_this_scales])), (a_this_scores, .inl (cJ, 2000, .inr (.inl c_this_scores)))] H locs → lv_has ls 5 [(0, .ref a_this), (1, .long x1), (3, .int x3), (4, .int v4_3)] → W p l e rm_X3_isBeaten s m args below meth c H locs 0 0 Q (F0 m 3 ls []) := by
    intro n
    induction n with
    | zero => intro v4_3 H locs ls hw; exact False.elim hw
    | succ n ih_3 =>
      intro v4_3 H locs ls hw hG hl
      obtain ⟨w_3, hw_3, hw⟩ : ∃ w' : Int32 → Prop, (∀ v4_3, w' v4_3 → Lp1 (b_X3_isBeaten_3 c_this_scores x1 x3 post kx_3) n v4_3) ∧ b_X3_isBeaten_3 c_this_scores x1 x3 post kx_3 w' v4_3 := ⟨_, fun _ h => h, hw⟩
      replace ih_3 : ∀ (v4_3 : Int32) (H : Heap) (locs : List Loc) (ls : Array Slot), w_3 v4_3 → HW (dC, dI) A s.heap [(a_this, .inr (3, [.ref a_this_scores, .ref a_this_points, .ref a_this_counts, .int c_this_size, .ref a_this_ideals, .ref a_this_scales])), (a_this_scores, .inl (cJ, 2000, .inr (.inl c_this_scores)))] H locs → lv_has ls 5 [(0, .ref a_this), (1, .long x1), (3, .int x3), (4, .int v4_3)] → W p l e rm_X3_isBeaten s m args below meth c H locs 0 0 Q (F0 m 3 ls []) := fun v4_3 H locs ls h => ih_3 v4_3 H locs ls (hw_3 _ h)
      unfold b_X3_isBeaten_3 at hw
      refine lv_iload K.1 K.2.1 dX3_isBeaten_3 (lv_at hl 3 rfl) ?_
      refine lv_iload_n K.1 K.2.1 dX3_isBeaten_5 rfl (lv_at hl 2 rfl) ?_
      refine lv_icmp_ge (tgt := 31) K.1 K.2.1 dX3_isBeaten_6 (by decide) (fun q_6 => ?_) (fun q_6 => ?_)
      · have hw := hw.1 q_6
        exact hX_3 H locs ls hw hG (lv_sub hl [] rfl)
      · have hw := hw.2 q_6
        refine lv_aload_n K.1 K.2.1 dX3_isBeaten_9 rfl (lv_at hl 0 rfl) ?_
        refine g_get (v := .ref a_this_scores) K hG hin_RX3 0 rfl rfl 0 (by decide) (K.2.2.2.2.1 (.fieldLink RX3 9 "AimFronts$Front" "scores" "[J") (by decide +kernel)) rfl rfl dX3_isBeaten_10 ?_
        refine lv_iload K.1 K.2.1 dX3_isBeaten_13 (lv_at hl 3 rfl) ?_
        obtain ⟨h_15, hw⟩ := hw
        refine g_lald K hG 1 rfl h_15 dX3_isBeaten_15 ?_
        refine lv_lload_n K.1 K.2.1 dX3_isBeaten_16 rfl (lv_at hl 1 rfl) ?_
        refine g_ri K hG [] rfl (g_runS (As := [.long (c_this_scores (v4_3).toNatClampNeg), .long x1]) (rest := []) K hG hl [] rfl rfl (k_X4_inNoneGreater l dC dI cI cJ cZ cG H.size (c_this_scores (v4_3).toNatClampNeg) x1 _ hw) (va_cwS 2 K.2.2.2.2.1 gX3_isBeaten_X4_inNoneGreater rfl rfl rfl (by decide +kernel) ⟨by decide, by decide⟩) rfl rfl (Nat.le_of_ble_eq_true rfl) ⟨Nat.zero_le _, Nat.zero_le _⟩ dX3_isBeaten_17) (fun r_17 H locs hw hG => ?_)
        refine lv_if_eq (tgt := 25) K.1 K.2.1 dX3_isBeaten_20 (by decide) (fun q_20 => ?_) (fun q_20 => ?_)
        · have hw := hw.1 q_20
          refine lv_iinc (v := (v4_3 + (1 : Int32))) (lv' := [(4, .int (v4_3 + (1 : Int32))), (0, .ref a_this), (1, .long x1), (3, .int x3)]) K.1 K.2.1 dX3_isBeaten_25 hl (k := 3) rfl rfl (by decide) rfl (fun ls hl => ?_)
          refine lv_goto (tgt := 3) K.1 K.2.1 dX3_isBeaten_28 (by decide) ?_
          exact ih_3 (v4_3 + (1 : Int32)) H locs ls hw hG (lv_sub hl [1, 2, 3, 0] rfl)
        · have hw := hw.2 q_20
          refine lv_iconst (v := 1) K.1 K.2.1 dX3_isBeaten_23 (by decide) ?_
          exact hret (1 : Int32) () H locs _ ls dX3_isBeaten_24 rfl hw hG
  exact hL_3 n_3 (0 : Int32) H locs ls hw hG (lv_sub hl [1, 2, 3, 0] rfl)
abbrev rm_X3_move : Room := { frames := 0, cells := 0, slots := 0, locals := 0 }
set_option maxHeartbeats 4000000 in
set_option maxRecDepth 100000 in
theorem k_X3_move (l : Launch) (dC : Nat → ClassId) (dI : Nat → Nat → Nat) (cI cJ cZ cG : ClassId) (sz : Nat) (a_this a_this_scores a_this_points a_this_counts a_this_ideals a_this_scales : Nat) (c_this_counts : Nat → Int32) (c_this_points : Nat → Int32) (c_this_scores : Nat → Int64) (c_this_size : Int32) (x1 : Int32) (x2 : Int32) (post : (Nat → Int32) → (Nat → Int32) → (Nat → Int64) → Prop) (hw : wp_X3_move c_this_counts c_this_points c_this_scores x1 x2 post) : MetV l yX3_move wsX3_move rm_X3_move (dC, dI) cI cJ cZ cG [.ref a_this, .int x1, .int x2] sz [(a_this, .inr (3, [.ref a_this_scores, .ref a_this_points, .ref a_this_counts, .int c_this_size, .ref a_this_ideals, .ref a_this_scales])), (a_this_counts, .inl (cI, 2000, .inl c_this_counts)), (a_this_points, .inl (cI, 2000, .inl c_this_points)), (a_this_scores, .inl (cJ, 2000, .inr (.inl c_this_scores)))] (fun (u : (Nat → Int32) × (Nat → Int32) × (Nat → Int64)) => post (u.1) (u.2.1) (u.2.2)) (fun u => [(a_this, .inr (3, [.ref a_this_scores, .ref a_this_points, .ref a_this_counts, .int c_this_size, .ref a_this_ideals, .ref a_this_scales])), (a_this_counts, .inl (cI, 2000, .inl (u.1))), (a_this_points, .inl (cI, 2000, .inl (u.2.1))), (a_this_scores, .inl (cJ, 2000, .inr (.inl (u.2.2))))]) := by
  refine met_v (cc := cX3_move) (maxL := 3) (by decide) rfl (Nat.le_of_ble_eq_true rfl) ?_
  intro p e s m args below meth c A Q H locs ls K hG hl hret
  have hl : lv_has ls 3 [(0, .ref a_this), (1, .int x1), (2, .int x2)] := hl
  have hin_RX3 : ∀ w ∈ u_ws RX3 TX3 6, w ∈ wsX3_move := by decide +kernel
  unfold wp_X3_move at hw
  refine lv_iload_n K.1 K.2.1 dX3_move_0 rfl (lv_at hl 1 rfl) ?_
  refine lv_iload_n K.1 K.2.1 dX3_move_1 rfl (lv_at hl 2 rfl) ?_
  refine lv_icmp_eq (tgt := 41) K.1 K.2.1 dX3_move_2 (by decide) (fun q_2 => ?_) (fun q_2 => ?_)
  · have hw := hw.1 q_2
    exact hret (c_this_counts, c_this_points, c_this_scores) H locs _ ls dX3_move_41 hw hG
  · have hw := hw.2 q_2
    refine lv_aload_n K.1 K.2.1 dX3_move_5 rfl (lv_at hl 0 rfl) ?_
    refine g_get (v := .ref a_this_scores) K hG hin_RX3 0 rfl rfl 0 (by decide) (K.2.2.2.2.1 (.fieldLink RX3 9 "AimFronts$Front" "scores" "[J") (by decide +kernel)) rfl rfl dX3_move_6 ?_
    refine lv_iload_n K.1 K.2.1 dX3_move_9 rfl (lv_at hl 2 rfl) ?_
    refine lv_aload_n K.1 K.2.1 dX3_move_10 rfl (lv_at hl 0 rfl) ?_
    refine g_get (v := .ref a_this_scores) K hG hin_RX3 0 rfl rfl 0 (by decide) (K.2.2.2.2.1 (.fieldLink RX3 9 "AimFronts$Front" "scores" "[J") (by decide +kernel)) rfl rfl dX3_move_11 ?_
    refine lv_iload_n K.1 K.2.1 dX3_move_14 rfl (lv_at hl 1 rfl) ?_
    obtain ⟨h_15, hw⟩ := hw
    refine g_lald K hG 3 rfl h_15 dX3_move_15 ?_
    obtain ⟨h_16, hw⟩ := hw
    refine g_last (ws' := [(a_this, .inr (3, [.ref a_this_scores, .ref a_this_points, .ref a_this_counts, .int c_this_size, .ref a_this_ideals, .ref a_this_scales])), (a_this_counts, .inl (cI, 2000, .inl c_this_counts)), (a_this_points, .inl (cI, 2000, .inl c_this_points)), (a_this_scores, .inl (cJ, 2000, .inr (.inl (vp_updL c_this_scores (x2).toNatClampNeg (c_this_scores (x1).toNatClampNeg)))))]) K hG 3 rfl h_16 rfl dX3_move_16 (fun H locs hG => ?_)
    refine lv_aload_n K.1 K.2.1 dX3_move_17 rfl (lv_at hl 0 rfl) ?_
    refine g_get (v := .ref a_this_points) K hG hin_RX3 0 rfl rfl 1 (by decide) (K.2.2.2.2.1 (.fieldLink RX3 15 "AimFronts$Front" "points" "[I") (by decide +kernel)) rfl rfl dX3_move_18 ?_
    refine lv_iload_n K.1 K.2.1 dX3_move_21 rfl (lv_at hl 2 rfl) ?_
    refine lv_aload_n K.1 K.2.1 dX3_move_22 rfl (lv_at hl 0 rfl) ?_
    refine g_get (v := .ref a_this_points) K hG hin_RX3 0 rfl rfl 1 (by decide) (K.2.2.2.2.1 (.fieldLink RX3 15 "AimFronts$Front" "points" "[I") (by decide +kernel)) rfl rfl dX3_move_23 ?_
    refine lv_iload_n K.1 K.2.1 dX3_move_26 rfl (lv_at hl 1 rfl) ?_
    obtain ⟨h_27, hw⟩ := hw
    refine g_iald K hG 2 rfl h_27 dX3_move_27 ?_
    obtain ⟨h_28, hw⟩ := hw
    refine g_iast (ws' := [(a_this, .inr (3, [.ref a_this_scores, .ref a_this_points, .ref a_this_counts, .int c_this_size, .ref a_this_ideals, .ref a_this_scales])), (a_this_counts, .inl (cI, 2000, .inl c_this_counts)), (a_this_points, .inl (cI, 2000, .inl (upd c_this_points (x2).toNatClampNeg (c_this_points (x1).toNatClampNeg)))), (a_this_scores, .inl (cJ, 2000, .inr (.inl (vp_updL c_this_scores (x2).toNatClampNeg (c_this_scores (x1).toNatClampNeg)))))]) K hG 2 rfl h_28 rfl dX3_move_28 (fun H locs hG => ?_)
    refine lv_aload_n K.1 K.2.1 dX3_move_29 rfl (lv_at hl 0 rfl) ?_
    refine g_get (v := .ref a_this_counts) K hG hin_RX3 0 rfl rfl 2 (by decide) (K.2.2.2.2.1 (.fieldLink RX3 19 "AimFronts$Front" "counts" "[I") (by decide +kernel)) rfl rfl dX3_move_30 ?_
    refine lv_iload_n K.1 K.2.1 dX3_move_33 rfl (lv_at hl 2 rfl) ?_
    refine lv_aload_n K.1 K.2.1 dX3_move_34 rfl (lv_at hl 0 rfl) ?_
    refine g_get (v := .ref a_this_counts) K hG hin_RX3 0 rfl rfl 2 (by decide) (K.2.2.2.2.1 (.fieldLink RX3 19 "AimFronts$Front" "counts" "[I") (by decide +kernel)) rfl rfl dX3_move_35 ?_
    refine lv_iload_n K.1 K.2.1 dX3_move_38 rfl (lv_at hl 1 rfl) ?_
    obtain ⟨h_39, hw⟩ := hw
    refine g_iald K hG 1 rfl h_39 dX3_move_39 ?_
    obtain ⟨h_40, hw⟩ := hw
    refine g_iast (ws' := [(a_this, .inr (3, [.ref a_this_scores, .ref a_this_points, .ref a_this_counts, .int c_this_size, .ref a_this_ideals, .ref a_this_scales])), (a_this_counts, .inl (cI, 2000, .inl (upd c_this_counts (x2).toNatClampNeg (c_this_counts (x1).toNatClampNeg)))), (a_this_points, .inl (cI, 2000, .inl (upd c_this_points (x2).toNatClampNeg (c_this_points (x1).toNatClampNeg)))), (a_this_scores, .inl (cJ, 2000, .inr (.inl (vp_updL c_this_scores (x2).toNatClampNeg (c_this_scores (x1).toNatClampNeg)))))]) K hG 1 rfl h_40 rfl dX3_move_40 (fun H locs hG => ?_)
    exact hret ((upd c_this_counts (x2).toNatClampNeg (c_this_counts (x1).toNatClampNeg)), (upd c_this_points (x2).toNatClampNeg (c_this_points (x1).toNatClampNeg)), (vp_updL c_this_scores (x2).toNatClampNeg (c_this_scores (x1).toNatClampNeg))) H locs _ ls dX3_move_41 hw hG
abbrev rm_X3_dropBeaten : Room := { frames := 1, cells := 0, slots := 0, locals := 23 }
set_option maxHeartbeats 4000000 in
set_option maxRecDepth 100000 in
theorem k_X3_dropBeaten (l : Launch) (dC : Nat → ClassId) (dI : Nat → Nat → Nat) (cI cJ cZ cG : ClassId) (sz : Nat) (a_this a_this_scores a_this_points a_this_counts a_this_ideals a_this_scales : Nat) (c_this_counts : Nat → Int32) (c_this_points : Nat → Int32) (c_this_scores : Nat → Int64) (c_this_size : Int32) (x1 : Int64) (x3 : Int32) (post : (Nat → Int32) → (Nat → Int32) → (Nat → Int64) → Int32 → Prop) (hw : wp_X3_dropBeaten c_this_counts c_this_points c_this_scores c_this_size x1 x3 post) : MetV l yX3_dropBeaten wsX3_dropBeaten rm_X3_dropBeaten (dC, dI) cI cJ cZ cG [.ref a_this, .long x1, .int x3] sz [(a_this, .inr (3, [.ref a_this_scores, .ref a_this_points, .ref a_this_counts, .int c_this_size, .ref a_this_ideals, .ref a_this_scales])), (a_this_counts, .inl (cI, 2000, .inl c_this_counts)), (a_this_points, .inl (cI, 2000, .inl c_this_points)), (a_this_scores, .inl (cJ, 2000, .inr (.inl c_this_scores)))] (fun (u : (Nat → Int32) × (Nat → Int32) × (Nat → Int64) × Int32) => post (u.1) (u.2.1) (u.2.2.1) (u.2.2.2)) (fun u => [(a_this, .inr (3, [.ref a_this_scores, .ref a_this_points, .ref a_this_counts, .int (u.2.2.2), .ref a_this_ideals, .ref a_this_scales])), (a_this_counts, .inl (cI, 2000, .inl (u.1))), (a_this_points, .inl (cI, 2000, .inl (u.2.1))), (a_this_scores, .inl (cJ, 2000, .inr (.inl (u.2.2.1))))]) := by
  refine met_v (cc := cX3_dropBeaten) (maxL := 6) (by decide) rfl (Nat.le_of_ble_eq_true rfl) ?_
  intro p e s m args below meth c A Q H locs ls K hG hl hret
  have hl : lv_has ls 6 [(0, .ref a_this), (1, .long x1), (3, .int x3)] := hl
  have hin_RX3 : ∀ w ∈ u_ws RX3 TX3 6, w ∈ wsX3_dropBeaten := by decide +kernel
  unfold wp_X3_dropBeaten at hw
  refine lv_iload_n K.1 K.2.1 dX3_dropBeaten_0 rfl (lv_at hl 2 rfl) ?_
  refine lv_istore (lv' := [(4, .int x3), (0, .ref a_this), (1, .long x1), (3, .int x3)]) K.1 K.2.1 dX3_dropBeaten_1 hl (by decide) rfl (fun ls hl => ?_)
  refine lv_iload_n K.1 K.2.1 dX3_dropBeaten_3 rfl (lv_at hl 3 rfl) ?_
  refine lv_istore (lv' := [(5, .int x3), (4, .int x3), (0, .ref a_this), (1, .long x1), (3, .int x3)]) K.1 K.2.1 dX3_dropBeaten_4 hl (by decide) rfl (fun ls hl => ?_)
  obtain ⟨kx_6, hkx_6, n_6, hw⟩ := Lx4_5_abs hw
  have hX_6 : ∀ (v4_6e : Int32) (c_this_counts_6e : Nat → Int32) (c_this_points_6e : Nat → Int32) (c_this_scores_6e : Nat → Int64) (H : Heap) (locs : List Loc) (ls : Array Slot), kx_6 v4_6e c_this_counts_6e c_this_points_6e c_this_scores_6e → HW (dC, dI) A s.heap [(a_this, .inr (3, [.ref a_this_scores, .ref a_this_points, .ref a_this_counts, .int c_this_size, .ref a_this_ideals, .ref a_this_scales])), (a_this_counts, .inl (cI, 2000, .inl c_this_counts_6e)), (a_this_points, .inl (cI, 2000, .inl c_this_points_6e)), (a_this_scores, .inl (cJ, 2000, .inr (.inl c_this_scores_6e)))] H locs → lv_has ls 6 [(0, .ref a_this), (4, .int v4_6e)] → W p l e rm_X3_dropBeaten s m args below meth c H locs 0 0 Q (F0 m 46 ls []) := by
    intro v4_6e c_this_counts_6e c_this_points_6e c_this_scores_6e H locs ls hw hG hl
    have hw := hkx_6 _ _ _ _ hw
    refine lv_aload_n K.1 K.2.1 dX3_dropBeaten_46 rfl (lv_at hl 0 rfl) ?_
    refine lv_iload K.1 K.2.1 dX3_dropBeaten_47 (lv_at hl 1 rfl) ?_
    refine g_put (v := .int v4_6e) (ws' := [(a_this, .inr (3, [.ref a_this_scores, .ref a_this_points, .ref a_this_counts, .int v4_6e, .ref a_this_ideals, .ref a_this_scales])), (a_this_counts, .inl (cI, 2000, .inl c_this_counts_6e)), (a_this_points, .inl (cI, 2000, .inl c_this_points_6e)), (a_this_scores, .inl (cJ, 2000, .inr (.inl c_this_scores_6e)))]) K hG hin_RX3 tyX3 tyX3_ok nmX3 0 rfl rfl 3 (by decide) (K.2.2.2.2.1 (.fieldLink RX3 32 "AimFronts$Front" "size" "I") (by decide +kernel)) rfl rfl rfl rfl (Nat.le_of_ble_eq_true rfl) rfl dX3_dropBeaten_49 (fun H locs hG => ?_)
    exact hret (c_this_counts_6e, c_this_points_6e, c_this_scores_6e, v4_6e) H locs _ ls dX3_dropBeaten_52 hw hG
  have hL_6 : ∀ (n : Nat), ∀ (v4_6 : Int32) (v5_6 : Int32) (c_this_counts_6 : Nat → Int32) (c_this_points_6 : Nat → Int32) (c_this_scores_6 : Nat → Int64) (H : Heap) (locs : List Loc) (ls : Array Slot), Lp5 (b_X3_dropBeaten_6 c_this_size x1 kx_6) n v4_6 v5_6 c_this_counts_6 c_this_points_6 c_this_scores_6 → HW (dC, dI) A s.heap [(a_this, .inr (3, [.ref a_this_scores, .ref a_this_points, .ref a_this_counts, .int c_this_size, .ref a_this_ideals, .ref a_this_scales])), (a_this_counts, .inl (cI, 2000, .inl c_this_counts_6)), (a_this_points, .inl (cI, 2000, .inl c_this_points_6)), (a_this_scores, .inl (cJ, 2000, .inr (.inl c_this_scores_6)))] H locs → lv_has ls 6 [(0, .ref a_this), (1, .long x1), (4, .int v4_6), (5, .int v5_6)] → W p l e rm_X3_dropBeaten s m args below meth c H locs 0 0 Q (F0 m 6 ls []) := by
    intro n
    induction n with
    | zero => intro v4_6 v5_6 c_this_counts_6 c_this_points_6 c_this_scores_6 H locs ls hw; exact False.elim hw
    | succ n ih_6 =>
      intro v4_6 v5_6 c_this_counts_6 c_this_points_6 c_this_scores_6 H locs ls hw hG hl
      obtain ⟨w_6, hw_6, hw⟩ : ∃ w' : Int32 → Int32 → (Nat → Int32) → (Nat → Int32) → (Nat → Int64) → Prop, (∀ v4_6 v5_6 c_this_counts_6 c_this_points_6 c_this_scores_6, w' v4_6 v5_6 c_this_counts_6 c_this_points_6 c_this_scores_6 → Lp5 (b_X3_dropBeaten_6 c_this_size x1 kx_6) n v4_6 v5_6 c_this_counts_6 c_this_points_6 c_this_scores_6) ∧ b_X3_dropBeaten_6 c_this_size x1 kx_6 w' v4_6 v5_6 c_this_counts_6 c_this_points_6 c_this_scores_6 := ⟨_, fun _ _ _ _ _ h => h, hw⟩
      replace ih_6 : ∀ (v4_6 : Int32) (v5_6 : Int32) (c_this_counts_6 : Nat → Int32) (c_this_points_6 : Nat → Int32) (c_this_scores_6 : Nat → Int64) (H : Heap) (locs : List Loc) (ls : Array Slot), w_6 v4_6 v5_6 c_this_counts_6 c_this_points_6 c_this_scores_6 → HW (dC, dI) A s.heap [(a_this, .inr (3, [.ref a_this_scores, .ref a_this_points, .ref a_this_counts, .int c_this_size, .ref a_this_ideals, .ref a_this_scales])), (a_this_counts, .inl (cI, 2000, .inl c_this_counts_6)), (a_this_points, .inl (cI, 2000, .inl c_this_points_6)), (a_this_scores, .inl (cJ, 2000, .inr (.inl c_this_scores_6)))] H locs → lv_has ls 6 [(0, .ref a_this), (1, .long x1), (4, .int v4_6), (5, .int v5_6)] → W p l e rm_X3_dropBeaten s m args below meth c H locs 0 0 Q (F0 m 6 ls []) := fun v4_6 v5_6 c_this_counts_6 c_this_points_6 c_this_scores_6 H locs ls h => ih_6 v4_6 v5_6 c_this_counts_6 c_this_points_6 c_this_scores_6 H locs ls (hw_6 _ _ _ _ _ h)
      unfold b_X3_dropBeaten_6 at hw
      refine lv_iload K.1 K.2.1 dX3_dropBeaten_6 (lv_at hl 3 rfl) ?_
      refine lv_aload_n K.1 K.2.1 dX3_dropBeaten_8 rfl (lv_at hl 0 rfl) ?_
      refine g_get (v := .int c_this_size) K hG hin_RX3 0 rfl rfl 3 (by decide) (K.2.2.2.2.1 (.fieldLink RX3 32 "AimFronts$Front" "size" "I") (by decide +kernel)) rfl rfl dX3_dropBeaten_9 ?_
      refine lv_icmp_ge (tgt := 46) K.1 K.2.1 dX3_dropBeaten_12 (by decide) (fun q_12 => ?_) (fun q_12 => ?_)
      · have hw := hw.1 q_12
        exact hX_6 v4_6 c_this_counts_6 c_this_points_6 c_this_scores_6 H locs ls hw hG (lv_sub hl [0, 2] rfl)
      · have hw := hw.2 q_12
        refine lv_lload_n K.1 K.2.1 dX3_dropBeaten_15 rfl (lv_at hl 1 rfl) ?_
        refine lv_aload_n K.1 K.2.1 dX3_dropBeaten_16 rfl (lv_at hl 0 rfl) ?_
        refine g_get (v := .ref a_this_scores) K hG hin_RX3 0 rfl rfl 0 (by decide) (K.2.2.2.2.1 (.fieldLink RX3 9 "AimFronts$Front" "scores" "[J") (by decide +kernel)) rfl rfl dX3_dropBeaten_17 ?_
        refine lv_iload K.1 K.2.1 dX3_dropBeaten_20 (lv_at hl 3 rfl) ?_
        obtain ⟨h_22, hw⟩ := hw
        refine g_lald K hG 3 rfl h_22 dX3_dropBeaten_22 ?_
        refine g_ri K hG [] rfl (g_runS (As := [.long x1, .long (c_this_scores_6 (v5_6).toNatClampNeg)]) (rest := []) K hG hl [] rfl rfl (k_X4_inNoneGreater l dC dI cI cJ cZ cG H.size x1 (c_this_scores_6 (v5_6).toNatClampNeg) _ hw) (va_cwS 2 K.2.2.2.2.1 gX3_dropBeaten_X4_inNoneGreater rfl rfl rfl (by decide +kernel) ⟨by decide, by decide⟩) rfl rfl (Nat.le_of_ble_eq_true rfl) ⟨Nat.zero_le _, Nat.zero_le _⟩ dX3_dropBeaten_23) (fun r_23 H locs hw hG => ?_)
        refine lv_if_ne (tgt := 40) K.1 K.2.1 dX3_dropBeaten_26 (by decide) (fun q_26 => ?_) (fun q_26 => ?_)
        · have hw := hw.2 q_26
          refine lv_iinc (v := (v5_6 + (1 : Int32))) (lv' := [(5, .int (v5_6 + (1 : Int32))), (0, .ref a_this), (1, .long x1), (4, .int v4_6)]) K.1 K.2.1 dX3_dropBeaten_40 hl (k := 3) rfl rfl (by decide) rfl (fun ls hl => ?_)
          refine lv_goto (tgt := 6) K.1 K.2.1 dX3_dropBeaten_43 (by decide) ?_
          exact ih_6 v4_6 (v5_6 + (1 : Int32)) c_this_counts_6 c_this_points_6 c_this_scores_6 H locs ls hw hG (lv_sub hl [1, 2, 3, 0] rfl)
        · have hw := hw.1 q_26
          refine lv_aload_n K.1 K.2.1 dX3_dropBeaten_29 rfl (lv_at hl 0 rfl) ?_
          refine lv_iload K.1 K.2.1 dX3_dropBeaten_30 (lv_at hl 3 rfl) ?_
          refine lv_iload K.1 K.2.1 dX3_dropBeaten_32 (lv_at hl 2 rfl) ?_
          refine g_nv (w2 := (fun u => [(a_this, .inr (3, [.ref a_this_scores, .ref a_this_points, .ref a_this_counts, .int c_this_size, .ref a_this_ideals, .ref a_this_scales])), (a_this_counts, .inl (cI, 2000, .inl (u.1))), (a_this_points, .inl (cI, 2000, .inl (u.2.1))), (a_this_scores, .inl (cJ, 2000, .inr (.inl (u.2.2))))])) (wr := []) K hG [0, 1, 2, 3] [] 4 rfl (g_runV (As := [.int v5_6, .int v4_6]) (rest := []) K hG hl [0, 1, 2, 3] rfl rfl 0 rfl rfl (k_X3_move l dC dI cI cJ cZ cG H.size a_this a_this_scores a_this_points a_this_counts a_this_ideals a_this_scales c_this_counts_6 c_this_points_6 c_this_scores_6 c_this_size v5_6 v4_6 _ hw) (cwV 2 K.2.2.2.2.1 gX3_dropBeaten_X3_move rfl rfl rfl (by decide +kernel) ⟨by decide, by decide⟩) rfl rfl (Nat.le_of_ble_eq_true rfl) ⟨Nat.zero_le _, Nat.zero_le _⟩ dX3_dropBeaten_34) (fun _ => rfl) (fun _ => rfl) rfl (fun _ => rfl) (fun _ => rfl) (by decide) (by decide) (by decide) (fun u H locs hw hG => ?_)
          obtain ⟨c_this_counts_34, c_this_points_34, c_this_scores_34⟩ := u
          have hG : HW (dC, dI) A s.heap [(a_this, .inr (3, [.ref a_this_scores, .ref a_this_points, .ref a_this_counts, .int c_this_size, .ref a_this_ideals, .ref a_this_scales])), (a_this_counts, .inl (cI, 2000, .inl c_this_counts_34)), (a_this_points, .inl (cI, 2000, .inl c_this_points_34)), (a_this_scores, .inl (cJ, 2000, .inr (.inl c_this_scores_34)))] H locs := hG
          refine lv_iinc (v := (v4_6 + (1 : Int32))) (lv' := [(4, .int (v4_6 + (1 : Int32))), (0, .ref a_this), (1, .long x1), (5, .int v5_6)]) K.1 K.2.1 dX3_dropBeaten_37 hl (k := 2) rfl rfl (by decide) rfl (fun ls hl => ?_)
          refine lv_iinc (v := (v5_6 + (1 : Int32))) (lv' := [(5, .int (v5_6 + (1 : Int32))), (4, .int (v4_6 + (1 : Int32))), (0, .ref a_this), (1, .long x1)]) K.1 K.2.1 dX3_dropBeaten_40 hl (k := 3) rfl rfl (by decide) rfl (fun ls hl => ?_)
          refine lv_goto (tgt := 6) K.1 K.2.1 dX3_dropBeaten_43 (by decide) ?_
          exact ih_6 (v4_6 + (1 : Int32)) (v5_6 + (1 : Int32)) c_this_counts_34 c_this_points_34 c_this_scores_34 H locs ls hw hG (lv_sub hl [2, 3, 1, 0] rfl)
  exact hL_6 n_6 x3 x3 c_this_counts c_this_points c_this_scores H locs ls hw hG (lv_sub hl [2, 3, 1, 0] rfl)

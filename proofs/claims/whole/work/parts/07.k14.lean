abbrev rm_X7_take : Room := { frames := 0, cells := 0, slots := 0, locals := 0 }
set_option maxHeartbeats 4000000 in
set_option maxRecDepth 100000 in
theorem k_X7_take (l : Launch) (dC : Nat → ClassId) (dI : Nat → Nat → Nat) (cI cJ cZ cG : ClassId) (sz : Nat) (a_this a_this_lows a_this_highs a_this_rights a_this_terms a_this_costs a_this_froms a_this_tos a_this_planPoint a_this_planScore a_this_frontPlan a_this_frontTies a_this_pick a_this_end a_this_point a_this_score a_this_by a_this_four a_this_isNear a_this_number a_this_numbers a_this_place a_this_was : Nat) (c_this_aims : Int32) (c_this_columns : Int32) (c_this_four : Nat → Int32) (c_this_front : Int32) (c_this_gone : Int32) (c_this_hasClimbed : Int32) (c_this_picks : Int32) (c_this_plans : Int32) (c_this_rows : Int32) (x1 : Int32) (x2 : Int32) (x3 : Int32) (x4 : Int32) (post : (Nat → Int32) → Prop) (hw : wp_X7_take c_this_four x1 x2 x3 x4 post) : MetV l yX7_take wsX7_take rm_X7_take (dC, dI) cI cJ cZ cG [.ref a_this, .int x1, .int x2, .int x3, .int x4] sz [(a_this, .inr (6, [.int c_this_columns, .int c_this_rows, .int c_this_aims, .ref a_this_lows, .ref a_this_highs, .ref a_this_rights, .ref a_this_terms, .ref a_this_costs, .ref a_this_froms, .ref a_this_tos, .int c_this_gone, .int c_this_plans, .ref a_this_planPoint, .ref a_this_planScore, .int c_this_front, .ref a_this_frontPlan, .ref a_this_frontTies, .int c_this_picks, .ref a_this_pick, .int c_this_hasClimbed, .ref a_this_end, .ref a_this_point, .ref a_this_score, .ref a_this_by, .ref a_this_four, .ref a_this_isNear, .ref a_this_number, .ref a_this_numbers, .ref a_this_place, .ref a_this_was])), (a_this_four, .inl (cI, 4, .inl c_this_four))] (fun (u : (Nat → Int32)) => post u) (fun u => [(a_this, .inr (6, [.int c_this_columns, .int c_this_rows, .int c_this_aims, .ref a_this_lows, .ref a_this_highs, .ref a_this_rights, .ref a_this_terms, .ref a_this_costs, .ref a_this_froms, .ref a_this_tos, .int c_this_gone, .int c_this_plans, .ref a_this_planPoint, .ref a_this_planScore, .int c_this_front, .ref a_this_frontPlan, .ref a_this_frontTies, .int c_this_picks, .ref a_this_pick, .int c_this_hasClimbed, .ref a_this_end, .ref a_this_point, .ref a_this_score, .ref a_this_by, .ref a_this_four, .ref a_this_isNear, .ref a_this_number, .ref a_this_numbers, .ref a_this_place, .ref a_this_was])), (a_this_four, .inl (cI, 4, .inl u))]) := by
  refine met_v (cc := cX7_take) (maxL := 5) (by decide) rfl (Nat.le_of_ble_eq_true rfl) ?_
  intro p e s m args below meth c A Q H locs ls K hG hl hret
  have hl : lv_has ls 5 [(0, .ref a_this), (1, .int x1), (2, .int x2), (3, .int x3), (4, .int x4)] := hl
  have hin_RX7 : ∀ w ∈ u_ws RX7 TX7 30, w ∈ wsX7_take := by decide +kernel
  unfold wp_X7_take at hw
  refine lv_aload_n K.1 K.2.1 dX7_take_0 rfl (lv_at hl 0 rfl) ?_
  refine g_get (v := .ref a_this_four) K hG hin_RX7 0 rfl rfl 24 (by decide) (K.2.2.2.2.1 (.fieldLink RX7 59 "AimFrontsModel" "four" "[I") (by decide +kernel)) rfl rfl dX7_take_1 ?_
  refine lv_iconst (v := 0) K.1 K.2.1 dX7_take_4 (by decide) ?_
  refine lv_iload_n K.1 K.2.1 dX7_take_5 rfl (lv_at hl 1 rfl) ?_
  obtain ⟨h_6, hw⟩ := hw
  refine g_iast (ws' := [(a_this, .inr (6, [.int c_this_columns, .int c_this_rows, .int c_this_aims, .ref a_this_lows, .ref a_this_highs, .ref a_this_rights, .ref a_this_terms, .ref a_this_costs, .ref a_this_froms, .ref a_this_tos, .int c_this_gone, .int c_this_plans, .ref a_this_planPoint, .ref a_this_planScore, .int c_this_front, .ref a_this_frontPlan, .ref a_this_frontTies, .int c_this_picks, .ref a_this_pick, .int c_this_hasClimbed, .ref a_this_end, .ref a_this_point, .ref a_this_score, .ref a_this_by, .ref a_this_four, .ref a_this_isNear, .ref a_this_number, .ref a_this_numbers, .ref a_this_place, .ref a_this_was])), (a_this_four, .inl (cI, 4, .inl (upd c_this_four ((0 : Int32)).toNatClampNeg x1)))]) K hG 1 rfl h_6 rfl dX7_take_6 (fun H locs hG => ?_)
  refine lv_aload_n K.1 K.2.1 dX7_take_7 rfl (lv_at hl 0 rfl) ?_
  refine g_get (v := .ref a_this_four) K hG hin_RX7 0 rfl rfl 24 (by decide) (K.2.2.2.2.1 (.fieldLink RX7 59 "AimFrontsModel" "four" "[I") (by decide +kernel)) rfl rfl dX7_take_8 ?_
  refine lv_iconst (v := 1) K.1 K.2.1 dX7_take_11 (by decide) ?_
  refine lv_iload_n K.1 K.2.1 dX7_take_12 rfl (lv_at hl 2 rfl) ?_
  obtain ⟨h_13, hw⟩ := hw
  refine g_iast (ws' := [(a_this, .inr (6, [.int c_this_columns, .int c_this_rows, .int c_this_aims, .ref a_this_lows, .ref a_this_highs, .ref a_this_rights, .ref a_this_terms, .ref a_this_costs, .ref a_this_froms, .ref a_this_tos, .int c_this_gone, .int c_this_plans, .ref a_this_planPoint, .ref a_this_planScore, .int c_this_front, .ref a_this_frontPlan, .ref a_this_frontTies, .int c_this_picks, .ref a_this_pick, .int c_this_hasClimbed, .ref a_this_end, .ref a_this_point, .ref a_this_score, .ref a_this_by, .ref a_this_four, .ref a_this_isNear, .ref a_this_number, .ref a_this_numbers, .ref a_this_place, .ref a_this_was])), (a_this_four, .inl (cI, 4, .inl (upd (upd c_this_four ((0 : Int32)).toNatClampNeg x1) ((1 : Int32)).toNatClampNeg x2)))]) K hG 1 rfl h_13 rfl dX7_take_13 (fun H locs hG => ?_)
  refine lv_aload_n K.1 K.2.1 dX7_take_14 rfl (lv_at hl 0 rfl) ?_
  refine g_get (v := .ref a_this_four) K hG hin_RX7 0 rfl rfl 24 (by decide) (K.2.2.2.2.1 (.fieldLink RX7 59 "AimFrontsModel" "four" "[I") (by decide +kernel)) rfl rfl dX7_take_15 ?_
  refine lv_iconst (v := 2) K.1 K.2.1 dX7_take_18 (by decide) ?_
  refine lv_iload_n K.1 K.2.1 dX7_take_19 rfl (lv_at hl 3 rfl) ?_
  obtain ⟨h_20, hw⟩ := hw
  refine g_iast (ws' := [(a_this, .inr (6, [.int c_this_columns, .int c_this_rows, .int c_this_aims, .ref a_this_lows, .ref a_this_highs, .ref a_this_rights, .ref a_this_terms, .ref a_this_costs, .ref a_this_froms, .ref a_this_tos, .int c_this_gone, .int c_this_plans, .ref a_this_planPoint, .ref a_this_planScore, .int c_this_front, .ref a_this_frontPlan, .ref a_this_frontTies, .int c_this_picks, .ref a_this_pick, .int c_this_hasClimbed, .ref a_this_end, .ref a_this_point, .ref a_this_score, .ref a_this_by, .ref a_this_four, .ref a_this_isNear, .ref a_this_number, .ref a_this_numbers, .ref a_this_place, .ref a_this_was])), (a_this_four, .inl (cI, 4, .inl (upd (upd (upd c_this_four ((0 : Int32)).toNatClampNeg x1) ((1 : Int32)).toNatClampNeg x2) ((2 : Int32)).toNatClampNeg x3)))]) K hG 1 rfl h_20 rfl dX7_take_20 (fun H locs hG => ?_)
  refine lv_aload_n K.1 K.2.1 dX7_take_21 rfl (lv_at hl 0 rfl) ?_
  refine g_get (v := .ref a_this_four) K hG hin_RX7 0 rfl rfl 24 (by decide) (K.2.2.2.2.1 (.fieldLink RX7 59 "AimFrontsModel" "four" "[I") (by decide +kernel)) rfl rfl dX7_take_22 ?_
  refine lv_iconst (v := 3) K.1 K.2.1 dX7_take_25 (by decide) ?_
  refine lv_iload K.1 K.2.1 dX7_take_26 (lv_at hl 4 rfl) ?_
  obtain ⟨h_28, hw⟩ := hw
  refine g_iast (ws' := [(a_this, .inr (6, [.int c_this_columns, .int c_this_rows, .int c_this_aims, .ref a_this_lows, .ref a_this_highs, .ref a_this_rights, .ref a_this_terms, .ref a_this_costs, .ref a_this_froms, .ref a_this_tos, .int c_this_gone, .int c_this_plans, .ref a_this_planPoint, .ref a_this_planScore, .int c_this_front, .ref a_this_frontPlan, .ref a_this_frontTies, .int c_this_picks, .ref a_this_pick, .int c_this_hasClimbed, .ref a_this_end, .ref a_this_point, .ref a_this_score, .ref a_this_by, .ref a_this_four, .ref a_this_isNear, .ref a_this_number, .ref a_this_numbers, .ref a_this_place, .ref a_this_was])), (a_this_four, .inl (cI, 4, .inl (upd (upd (upd (upd c_this_four ((0 : Int32)).toNatClampNeg x1) ((1 : Int32)).toNatClampNeg x2) ((2 : Int32)).toNatClampNeg x3) ((3 : Int32)).toNatClampNeg x4)))]) K hG 1 rfl h_28 rfl dX7_take_28 (fun H locs hG => ?_)
  exact hret (upd (upd (upd (upd c_this_four ((0 : Int32)).toNatClampNeg x1) ((1 : Int32)).toNatClampNeg x2) ((2 : Int32)).toNatClampNeg x3) ((3 : Int32)).toNatClampNeg x4) H locs _ ls dX7_take_29 hw hG
abbrev rm_X7_weigh : Room := { frames := 2, cells := 0, slots := 0, locals := 44 }
set_option maxHeartbeats 4000000 in
set_option maxRecDepth 100000 in
theorem k_X7_weigh (l : Launch) (dC : Nat → ClassId) (dI : Nat → Nat → Nat) (cI cJ cZ cG : ClassId) (sz : Nat) (a_this a_this_lows a_this_highs a_this_rights a_this_terms a_this_costs a_this_froms a_this_tos a_this_planPoint a_this_planScore a_this_frontPlan a_this_frontTies a_this_pick a_this_end a_this_point a_this_score a_this_by a_this_four a_this_isNear a_this_number a_this_numbers a_this_place a_this_was : Nat) (c_this_aims : Int32) (c_this_columns : Int32) (c_this_four : Nat → Int32) (c_this_front : Int32) (c_this_frontPlan : Nat → Int32) (c_this_gone : Int32) (c_this_hasClimbed : Int32) (c_this_picks : Int32) (c_this_planScore : Nat → Int32) (c_this_plans : Int32) (c_this_rows : Int32) (x1 : Int32) (post : Int64 → Prop) (hw : wp_X7_weigh c_this_aims c_this_four c_this_frontPlan c_this_planScore x1 post) : MetL l yX7_weigh wsX7_weigh rm_X7_weigh (dC, dI) cI cJ cZ cG [.ref a_this, .int x1] sz [(a_this, .inr (6, [.int c_this_columns, .int c_this_rows, .int c_this_aims, .ref a_this_lows, .ref a_this_highs, .ref a_this_rights, .ref a_this_terms, .ref a_this_costs, .ref a_this_froms, .ref a_this_tos, .int c_this_gone, .int c_this_plans, .ref a_this_planPoint, .ref a_this_planScore, .int c_this_front, .ref a_this_frontPlan, .ref a_this_frontTies, .int c_this_picks, .ref a_this_pick, .int c_this_hasClimbed, .ref a_this_end, .ref a_this_point, .ref a_this_score, .ref a_this_by, .ref a_this_four, .ref a_this_isNear, .ref a_this_number, .ref a_this_numbers, .ref a_this_place, .ref a_this_was])), (a_this_four, .inl (cI, 4, .inl c_this_four)), (a_this_frontPlan, .inl (cI, 2000, .inl c_this_frontPlan)), (a_this_planScore, .inl (cI, 8000, .inl c_this_planScore))] (fun (r : Int64) (u : Unit) => post r) (fun u => [(a_this, .inr (6, [.int c_this_columns, .int c_this_rows, .int c_this_aims, .ref a_this_lows, .ref a_this_highs, .ref a_this_rights, .ref a_this_terms, .ref a_this_costs, .ref a_this_froms, .ref a_this_tos, .int c_this_gone, .int c_this_plans, .ref a_this_planPoint, .ref a_this_planScore, .int c_this_front, .ref a_this_frontPlan, .ref a_this_frontTies, .int c_this_picks, .ref a_this_pick, .int c_this_hasClimbed, .ref a_this_end, .ref a_this_point, .ref a_this_score, .ref a_this_by, .ref a_this_four, .ref a_this_isNear, .ref a_this_number, .ref a_this_numbers, .ref a_this_place, .ref a_this_was])), (a_this_four, .inl (cI, 4, .inl c_this_four)), (a_this_frontPlan, .inl (cI, 2000, .inl c_this_frontPlan)), (a_this_planScore, .inl (cI, 8000, .inl c_this_planScore))]) := by
  refine met_l (cc := cX7_weigh) (maxL := 5) (by decide) rfl (Nat.le_of_ble_eq_true rfl) ?_
  intro p e s m args below meth c A Q H locs ls K hG hl hret
  have hl : lv_has ls 5 [(0, .ref a_this), (1, .int x1)] := hl
  have hin_RX7 : ∀ w ∈ u_ws RX7 TX7 30, w ∈ wsX7_weigh := by decide +kernel
  unfold wp_X7_weigh at hw
  refine lv_lconst (v := 0) K.1 K.2.1 dX7_weigh_0 (by decide) ?_
  refine lv_lstore_n (lv' := [(2, .long (0 : Int64)), (0, .ref a_this), (1, .int x1)]) K.1 K.2.1 dX7_weigh_1 rfl hl (by decide) rfl (fun ls hl => ?_)
  refine lv_iconst (v := 0) K.1 K.2.1 dX7_weigh_2 (by decide) ?_
  refine lv_istore (lv' := [(4, .int (0 : Int32)), (2, .long (0 : Int64)), (0, .ref a_this), (1, .int x1)]) K.1 K.2.1 dX7_weigh_3 hl (by decide) rfl (fun ls hl => ?_)
  obtain ⟨kx_5, hkx_5, n_5, hw⟩ := Lx1_2_abs hw
  have hX_5 : ∀ (v2_5e : Int64) (H : Heap) (locs : List Loc) (ls : Array Slot), kx_5 v2_5e → HW (dC, dI) A s.heap [(a_this, .inr (6, [.int c_this_columns, .int c_this_rows, .int c_this_aims, .ref a_this_lows, .ref a_this_highs, .ref a_this_rights, .ref a_this_terms, .ref a_this_costs, .ref a_this_froms, .ref a_this_tos, .int c_this_gone, .int c_this_plans, .ref a_this_planPoint, .ref a_this_planScore, .int c_this_front, .ref a_this_frontPlan, .ref a_this_frontTies, .int c_this_picks, .ref a_this_pick, .int c_this_hasClimbed, .ref a_this_end, .ref a_this_point, .ref a_this_score, .ref a_this_by, .ref a_this_four, .ref a_this_isNear, .ref a_this_number, .ref a_this_numbers, .ref a_this_place, .ref a_this_was])), (a_this_four, .inl (cI, 4, .inl c_this_four)), (a_this_frontPlan, .inl (cI, 2000, .inl c_this_frontPlan)), (a_this_planScore, .inl (cI, 8000, .inl c_this_planScore))] H locs → lv_has ls 5 [(2, .long v2_5e)] → W p l e rm_X7_weigh s m args below meth c H locs 0 0 Q (F0 m 40 ls []) := by
    intro v2_5e H locs ls hw hG hl
    have hw := hkx_5 _ hw
    refine lv_lload_n K.1 K.2.1 dX7_weigh_40 rfl (lv_at hl 0 rfl) ?_
    exact hret v2_5e () H locs _ ls dX7_weigh_41 hw hG
  have hL_5 : ∀ (n : Nat), ∀ (v2_5 : Int64) (v4_5 : Int32) (H : Heap) (locs : List Loc) (ls : Array Slot), Lp2 (b_X7_weigh_5 c_this_aims c_this_four c_this_frontPlan c_this_planScore x1 kx_5) n v2_5 v4_5 → HW (dC, dI) A s.heap [(a_this, .inr (6, [.int c_this_columns, .int c_this_rows, .int c_this_aims, .ref a_this_lows, .ref a_this_highs, .ref a_this_rights, .ref a_this_terms, .ref a_this_costs, .ref a_this_froms, .ref a_this_tos, .int c_this_gone, .int c_this_plans, .ref a_this_planPoint, .ref a_this_planScore, .int c_this_front, .ref a_this_frontPlan, .ref a_this_frontTies, .int c_this_picks, .ref a_this_pick, .int c_this_hasClimbed, .ref a_this_end, .ref a_this_point, .ref a_this_score, .ref a_this_by, .ref a_this_four, .ref a_this_isNear, .ref a_this_number, .ref a_this_numbers, .ref a_this_place, .ref a_this_was])), (a_this_four, .inl (cI, 4, .inl c_this_four)), (a_this_frontPlan, .inl (cI, 2000, .inl c_this_frontPlan)), (a_this_planScore, .inl (cI, 8000, .inl c_this_planScore))] H locs → lv_has ls 5 [(0, .ref a_this), (1, .int x1), (2, .long v2_5), (4, .int v4_5)] → W p l e rm_X7_weigh s m args below meth c H locs 0 0 Q (F0 m 5 ls []) := by
    intro n
    induction n with
    | zero => intro v2_5 v4_5 H locs ls hw; exact False.elim hw
    | succ n ih_5 =>
      intro v2_5 v4_5 H locs ls hw hG hl
      obtain ⟨w_5, hw_5, hw⟩ : ∃ w' : Int64 → Int32 → Prop, (∀ v2_5 v4_5, w' v2_5 v4_5 → Lp2 (b_X7_weigh_5 c_this_aims c_this_four c_this_frontPlan c_this_planScore x1 kx_5) n v2_5 v4_5) ∧ b_X7_weigh_5 c_this_aims c_this_four c_this_frontPlan c_this_planScore x1 kx_5 w' v2_5 v4_5 := ⟨_, fun _ _ h => h, hw⟩
      replace ih_5 : ∀ (v2_5 : Int64) (v4_5 : Int32) (H : Heap) (locs : List Loc) (ls : Array Slot), w_5 v2_5 v4_5 → HW (dC, dI) A s.heap [(a_this, .inr (6, [.int c_this_columns, .int c_this_rows, .int c_this_aims, .ref a_this_lows, .ref a_this_highs, .ref a_this_rights, .ref a_this_terms, .ref a_this_costs, .ref a_this_froms, .ref a_this_tos, .int c_this_gone, .int c_this_plans, .ref a_this_planPoint, .ref a_this_planScore, .int c_this_front, .ref a_this_frontPlan, .ref a_this_frontTies, .int c_this_picks, .ref a_this_pick, .int c_this_hasClimbed, .ref a_this_end, .ref a_this_point, .ref a_this_score, .ref a_this_by, .ref a_this_four, .ref a_this_isNear, .ref a_this_number, .ref a_this_numbers, .ref a_this_place, .ref a_this_was])), (a_this_four, .inl (cI, 4, .inl c_this_four)), (a_this_frontPlan, .inl (cI, 2000, .inl c_this_frontPlan)), (a_this_planScore, .inl (cI, 8000, .inl c_this_planScore))] H locs → lv_has ls 5 [(0, .ref a_this), (1, .int x1), (2, .long v2_5), (4, .int v4_5)] → W p l e rm_X7_weigh s m args below meth c H locs 0 0 Q (F0 m 5 ls []) := fun v2_5 v4_5 H locs ls h => ih_5 v2_5 v4_5 H locs ls (hw_5 _ _ h)
      unfold b_X7_weigh_5 at hw
      refine lv_iload K.1 K.2.1 dX7_weigh_5 (lv_at hl 3 rfl) ?_
      refine lv_aload_n K.1 K.2.1 dX7_weigh_7 rfl (lv_at hl 0 rfl) ?_
      refine g_get (v := .int c_this_aims) K hG hin_RX7 0 rfl rfl 2 (by decide) (K.2.2.2.2.1 (.fieldLink RX7 89 "AimFrontsModel" "aims" "I") (by decide +kernel)) rfl rfl dX7_weigh_8 ?_
      refine lv_icmp_ge (tgt := 40) K.1 K.2.1 dX7_weigh_11 (by decide) (fun q_11 => ?_) (fun q_11 => ?_)
      · have hw := hw.1 q_11
        exact hX_5 v2_5 H locs ls hw hG (lv_sub hl [2] rfl)
      · have hw := hw.2 q_11
        refine lv_lload_n K.1 K.2.1 dX7_weigh_14 rfl (lv_at hl 2 rfl) ?_
        refine lv_aload_n K.1 K.2.1 dX7_weigh_15 rfl (lv_at hl 0 rfl) ?_
        refine g_get (v := .ref a_this_four) K hG hin_RX7 0 rfl rfl 24 (by decide) (K.2.2.2.2.1 (.fieldLink RX7 59 "AimFrontsModel" "four" "[I") (by decide +kernel)) rfl rfl dX7_weigh_16 ?_
        refine lv_iload K.1 K.2.1 dX7_weigh_19 (lv_at hl 3 rfl) ?_
        obtain ⟨h_21, hw⟩ := hw
        refine g_iald K hG 1 rfl h_21 dX7_weigh_21 ?_
        refine lv_i2l K.1 K.2.1 dX7_weigh_22 rfl ?_
        refine lv_aload_n K.1 K.2.1 dX7_weigh_23 rfl (lv_at hl 0 rfl) ?_
        refine lv_iload_n K.1 K.2.1 dX7_weigh_24 rfl (lv_at hl 1 rfl) ?_
        refine lv_iload K.1 K.2.1 dX7_weigh_25 (lv_at hl 3 rfl) ?_
        refine g_ri K hG [0, 2, 3] rfl (g_runV (As := [.int x1, .int v4_5]) (rest := [.long (((c_this_four (v4_5).toNatClampNeg)).toInt64), .long v2_5]) K hG hl [0, 2, 3] rfl rfl 0 rfl rfl (k_X7_at l dC dI cI cJ cZ cG H.size a_this a_this_lows a_this_highs a_this_rights a_this_terms a_this_costs a_this_froms a_this_tos a_this_planPoint a_this_planScore a_this_frontPlan a_this_frontTies a_this_pick a_this_end a_this_point a_this_score a_this_by a_this_four a_this_isNear a_this_number a_this_numbers a_this_place a_this_was c_this_aims c_this_columns c_this_front c_this_frontPlan c_this_gone c_this_hasClimbed c_this_picks c_this_planScore c_this_plans c_this_rows x1 v4_5 _ hw) (cwV 2 K.2.2.2.2.1 gX7_weigh_X7_at rfl rfl rfl (by decide +kernel) ⟨by decide, by decide⟩) rfl rfl (Nat.le_of_ble_eq_true rfl) ⟨Nat.zero_le _, Nat.zero_le _⟩ dX7_weigh_27) (fun r_27 H locs hw hG => ?_)
        refine lv_i2l K.1 K.2.1 dX7_weigh_30 rfl ?_
        refine lv_lmul K.1 K.2.1 dX7_weigh_31 ?_
        refine lv_ladd K.1 K.2.1 dX7_weigh_32 ?_
        refine lv_lstore_n (lv' := [(2, .long (v2_5 + ((((c_this_four (v4_5).toNatClampNeg)).toInt64) * (r_27.toInt64)))), (0, .ref a_this), (1, .int x1), (4, .int v4_5)]) K.1 K.2.1 dX7_weigh_33 rfl hl (by decide) rfl (fun ls hl => ?_)
        refine lv_iinc (v := (v4_5 + (1 : Int32))) (lv' := [(4, .int (v4_5 + (1 : Int32))), (2, .long (v2_5 + ((((c_this_four (v4_5).toNatClampNeg)).toInt64) * (r_27.toInt64)))), (0, .ref a_this), (1, .int x1)]) K.1 K.2.1 dX7_weigh_34 hl (k := 3) rfl rfl (by decide) rfl (fun ls hl => ?_)
        refine lv_goto (tgt := 5) K.1 K.2.1 dX7_weigh_37 (by decide) ?_
        exact ih_5 (v2_5 + ((((c_this_four (v4_5).toNatClampNeg)).toInt64) * (r_27.toInt64))) (v4_5 + (1 : Int32)) H locs ls hw hG (lv_sub hl [2, 3, 1, 0] rfl)
  exact hL_5 n_5 (0 : Int64) (0 : Int32) H locs ls hw hG (lv_sub hl [2, 3, 1, 0] rfl)
abbrev rm_X7_weighted : Room := { frames := 3, cells := 0, slots := 0, locals := 68 }
set_option maxHeartbeats 4000000 in
set_option maxRecDepth 100000 in
theorem k_X7_weighted (l : Launch) (dC : Nat → ClassId) (dI : Nat → Nat → Nat) (cI cJ cZ cG : ClassId) (sz : Nat) (a_this a_this_lows a_this_highs a_this_rights a_this_terms a_this_costs a_this_froms a_this_tos a_this_planPoint a_this_planScore a_this_frontPlan a_this_frontTies a_this_pick a_this_end a_this_point a_this_score a_this_by a_this_four a_this_isNear a_this_number a_this_numbers a_this_place a_this_was : Nat) (c_this_aims : Int32) (c_this_columns : Int32) (c_this_four : Nat → Int32) (c_this_front : Int32) (c_this_frontPlan : Nat → Int32) (c_this_gone : Int32) (c_this_hasClimbed : Int32) (c_this_picks : Int32) (c_this_planScore : Nat → Int32) (c_this_plans : Int32) (c_this_rows : Int32) (x1 : Int32) (x2 : Int32) (x3 : Int32) (x4 : Int32) (post : Int32 → (Nat → Int32) → Prop) (hw : wp_X7_weighted c_this_aims c_this_four c_this_front c_this_frontPlan c_this_planScore x1 x2 x3 x4 post) : MetI l yX7_weighted wsX7_weighted rm_X7_weighted (dC, dI) cI cJ cZ cG [.ref a_this, .int x1, .int x2, .int x3, .int x4] sz [(a_this, .inr (6, [.int c_this_columns, .int c_this_rows, .int c_this_aims, .ref a_this_lows, .ref a_this_highs, .ref a_this_rights, .ref a_this_terms, .ref a_this_costs, .ref a_this_froms, .ref a_this_tos, .int c_this_gone, .int c_this_plans, .ref a_this_planPoint, .ref a_this_planScore, .int c_this_front, .ref a_this_frontPlan, .ref a_this_frontTies, .int c_this_picks, .ref a_this_pick, .int c_this_hasClimbed, .ref a_this_end, .ref a_this_point, .ref a_this_score, .ref a_this_by, .ref a_this_four, .ref a_this_isNear, .ref a_this_number, .ref a_this_numbers, .ref a_this_place, .ref a_this_was])), (a_this_four, .inl (cI, 4, .inl c_this_four)), (a_this_frontPlan, .inl (cI, 2000, .inl c_this_frontPlan)), (a_this_planScore, .inl (cI, 8000, .inl c_this_planScore))] (fun (r : Int32) (u : (Nat → Int32)) => post r u) (fun u => [(a_this, .inr (6, [.int c_this_columns, .int c_this_rows, .int c_this_aims, .ref a_this_lows, .ref a_this_highs, .ref a_this_rights, .ref a_this_terms, .ref a_this_costs, .ref a_this_froms, .ref a_this_tos, .int c_this_gone, .int c_this_plans, .ref a_this_planPoint, .ref a_this_planScore, .int c_this_front, .ref a_this_frontPlan, .ref a_this_frontTies, .int c_this_picks, .ref a_this_pick, .int c_this_hasClimbed, .ref a_this_end, .ref a_this_point, .ref a_this_score, .ref a_this_by, .ref a_this_four, .ref a_this_isNear, .ref a_this_number, .ref a_this_numbers, .ref a_this_place, .ref a_this_was])), (a_this_four, .inl (cI, 4, .inl u)), (a_this_frontPlan, .inl (cI, 2000, .inl c_this_frontPlan)), (a_this_planScore, .inl (cI, 8000, .inl c_this_planScore))]) := by
  refine met_i (ty := .int) (Or.inl rfl) (cc := cX7_weighted) (maxL := 9) (by decide) rfl (Nat.le_of_ble_eq_true rfl) ?_
  intro p e s m args below meth c A Q H locs ls K hG hl hret
  have hl : lv_has ls 9 [(0, .ref a_this), (1, .int x1), (2, .int x2), (3, .int x3), (4, .int x4)] := hl
  have hin_RX7 : ∀ w ∈ u_ws RX7 TX7 30, w ∈ wsX7_weighted := by decide +kernel
  unfold wp_X7_weighted at hw
  refine lv_aload_n K.1 K.2.1 dX7_weighted_0 rfl (lv_at hl 0 rfl) ?_
  refine lv_iload_n K.1 K.2.1 dX7_weighted_1 rfl (lv_at hl 1 rfl) ?_
  refine lv_iload_n K.1 K.2.1 dX7_weighted_2 rfl (lv_at hl 2 rfl) ?_
  refine lv_iload_n K.1 K.2.1 dX7_weighted_3 rfl (lv_at hl 3 rfl) ?_
  refine lv_iload K.1 K.2.1 dX7_weighted_4 (lv_at hl 4 rfl) ?_
  refine g_nv (w2 := (fun u => [(a_this, .inr (6, [.int c_this_columns, .int c_this_rows, .int c_this_aims, .ref a_this_lows, .ref a_this_highs, .ref a_this_rights, .ref a_this_terms, .ref a_this_costs, .ref a_this_froms, .ref a_this_tos, .int c_this_gone, .int c_this_plans, .ref a_this_planPoint, .ref a_this_planScore, .int c_this_front, .ref a_this_frontPlan, .ref a_this_frontTies, .int c_this_picks, .ref a_this_pick, .int c_this_hasClimbed, .ref a_this_end, .ref a_this_point, .ref a_this_score, .ref a_this_by, .ref a_this_four, .ref a_this_isNear, .ref a_this_number, .ref a_this_numbers, .ref a_this_place, .ref a_this_was])), (a_this_four, .inl (cI, 4, .inl u)), (a_this_frontPlan, .inl (cI, 2000, .inl c_this_frontPlan)), (a_this_planScore, .inl (cI, 8000, .inl c_this_planScore))])) (wr := [(a_this_frontPlan, .inl (cI, 2000, .inl c_this_frontPlan)), (a_this_planScore, .inl (cI, 8000, .inl c_this_planScore))]) K hG [0, 1] [2, 3] 4 rfl (g_runV (As := [.int x1, .int x2, .int x3, .int x4]) (rest := []) K hG hl [0, 1] rfl rfl 0 rfl rfl (k_X7_take l dC dI cI cJ cZ cG H.size a_this a_this_lows a_this_highs a_this_rights a_this_terms a_this_costs a_this_froms a_this_tos a_this_planPoint a_this_planScore a_this_frontPlan a_this_frontTies a_this_pick a_this_end a_this_point a_this_score a_this_by a_this_four a_this_isNear a_this_number a_this_numbers a_this_place a_this_was c_this_aims c_this_columns c_this_four c_this_front c_this_gone c_this_hasClimbed c_this_picks c_this_plans c_this_rows x1 x2 x3 x4 _ hw) (cwV 4 K.2.2.2.2.1 gX7_weighted_X7_take rfl rfl rfl (by decide +kernel) ⟨by decide, by decide⟩) rfl rfl (Nat.le_of_ble_eq_true rfl) ⟨Nat.zero_le _, Nat.zero_le _⟩ dX7_weighted_6) (fun _ => rfl) (fun _ => rfl) rfl (fun _ => rfl) (fun _ => rfl) (by decide) (by decide) (by decide) (fun u H locs hw hG => ?_)
  obtain ⟨c_this_four_6, rfl⟩ : ∃ z, z = u := ⟨_, rfl⟩
  have hG : HW (dC, dI) A s.heap [(a_this, .inr (6, [.int c_this_columns, .int c_this_rows, .int c_this_aims, .ref a_this_lows, .ref a_this_highs, .ref a_this_rights, .ref a_this_terms, .ref a_this_costs, .ref a_this_froms, .ref a_this_tos, .int c_this_gone, .int c_this_plans, .ref a_this_planPoint, .ref a_this_planScore, .int c_this_front, .ref a_this_frontPlan, .ref a_this_frontTies, .int c_this_picks, .ref a_this_pick, .int c_this_hasClimbed, .ref a_this_end, .ref a_this_point, .ref a_this_score, .ref a_this_by, .ref a_this_four, .ref a_this_isNear, .ref a_this_number, .ref a_this_numbers, .ref a_this_place, .ref a_this_was])), (a_this_four, .inl (cI, 4, .inl c_this_four_6)), (a_this_frontPlan, .inl (cI, 2000, .inl c_this_frontPlan)), (a_this_planScore, .inl (cI, 8000, .inl c_this_planScore))] H locs := hG
  refine lv_iconst (v := 1) K.1 K.2.1 dX7_weighted_9 (by decide) ?_
  refine lv_istore (lv' := [(5, .int (1 : Int32)), (0, .ref a_this), (1, .int x1), (2, .int x2), (3, .int x3), (4, .int x4)]) K.1 K.2.1 dX7_weighted_10 hl (by decide) rfl (fun ls hl => ?_)
  refine lv_iconst (v := 1) K.1 K.2.1 dX7_weighted_12 (by decide) ?_
  refine lv_istore (lv' := [(6, .int (1 : Int32)), (5, .int (1 : Int32)), (0, .ref a_this), (1, .int x1), (2, .int x2), (3, .int x3), (4, .int x4)]) K.1 K.2.1 dX7_weighted_13 hl (by decide) rfl (fun ls hl => ?_)
  refine lv_iconst (v := 0) K.1 K.2.1 dX7_weighted_15 (by decide) ?_
  refine lv_istore (lv' := [(7, .int (0 : Int32)), (6, .int (1 : Int32)), (5, .int (1 : Int32)), (0, .ref a_this), (1, .int x1), (2, .int x2), (3, .int x3), (4, .int x4)]) K.1 K.2.1 dX7_weighted_16 hl (by decide) rfl (fun ls hl => ?_)
  obtain ⟨kx_18, hkx_18, n_18, hw⟩ := Lx2_3_abs hw
  have hX_18 : ∀ (v5_18e : Int32) (v6_18e : Int32) (H : Heap) (locs : List Loc) (ls : Array Slot), kx_18 v5_18e v6_18e → HW (dC, dI) A s.heap [(a_this, .inr (6, [.int c_this_columns, .int c_this_rows, .int c_this_aims, .ref a_this_lows, .ref a_this_highs, .ref a_this_rights, .ref a_this_terms, .ref a_this_costs, .ref a_this_froms, .ref a_this_tos, .int c_this_gone, .int c_this_plans, .ref a_this_planPoint, .ref a_this_planScore, .int c_this_front, .ref a_this_frontPlan, .ref a_this_frontTies, .int c_this_picks, .ref a_this_pick, .int c_this_hasClimbed, .ref a_this_end, .ref a_this_point, .ref a_this_score, .ref a_this_by, .ref a_this_four, .ref a_this_isNear, .ref a_this_number, .ref a_this_numbers, .ref a_this_place, .ref a_this_was])), (a_this_four, .inl (cI, 4, .inl c_this_four_6)), (a_this_frontPlan, .inl (cI, 2000, .inl c_this_frontPlan)), (a_this_planScore, .inl (cI, 8000, .inl c_this_planScore))] H locs → lv_has ls 9 [(0, .ref a_this), (5, .int v5_18e), (6, .int v6_18e)] → W p l e rm_X7_weighted s m args below meth c H locs 0 0 Q (F0 m 85 ls []) := by
    intro v5_18e v6_18e H locs ls hw hG hl
    have hw := hkx_18 _ _ hw
    refine lv_iload K.1 K.2.1 dX7_weighted_85 (lv_at hl 1 rfl) ?_
    refine lv_if_ne (tgt := 93) K.1 K.2.1 dX7_weighted_87 (by decide) (fun q_87 => ?_) (fun q_87 => ?_)
    · have hw := hw.2 q_87
      refine lv_aload_n K.1 K.2.1 dX7_weighted_93 rfl (lv_at hl 0 rfl) ?_
      refine g_get (v := .int c_this_front) K hG hin_RX7 0 rfl rfl 14 (by decide) (K.2.2.2.2.1 (.fieldLink RX7 98 "AimFrontsModel" "front" "I") (by decide +kernel)) rfl rfl dX7_weighted_94 ?_
      refine lv_if_eq (tgt := 105) K.1 K.2.1 dX7_weighted_97 (by decide) (fun q_97 => ?_) (fun q_97 => ?_)
      · have hw := hw.1 q_97
        refine lv_ldc (v := -1000002) K.1 K.2.1 K.2.2.2.1 (K.2.2.2.2.1 (.constant RX7 161 (-1000002)) (by decide +kernel)) dX7_weighted_105 ?_
        exact hret (-1000002 : Int32) c_this_four_6 H locs _ ls dX7_weighted_107 rfl hw hG
      · have hw := hw.2 q_97
        refine lv_iload K.1 K.2.1 dX7_weighted_100 (lv_at hl 2 rfl) ?_
        refine lv_if_eq (tgt := 108) K.1 K.2.1 dX7_weighted_102 (by decide) (fun q_102 => ?_) (fun q_102 => ?_)
        · have hw := hw.1 q_102
          refine lv_iconst (v := 0) K.1 K.2.1 dX7_weighted_108 (by decide) ?_
          refine lv_istore (lv' := [(7, .int (0 : Int32)), (0, .ref a_this), (5, .int v5_18e), (6, .int v6_18e)]) K.1 K.2.1 dX7_weighted_109 hl (by decide) rfl (fun ls hl => ?_)
          refine lv_iconst (v := 1) K.1 K.2.1 dX7_weighted_111 (by decide) ?_
          refine lv_istore (lv' := [(8, .int (1 : Int32)), (7, .int (0 : Int32)), (0, .ref a_this), (5, .int v5_18e), (6, .int v6_18e)]) K.1 K.2.1 dX7_weighted_112 hl (by decide) rfl (fun ls hl => ?_)
          obtain ⟨kx_114, hkx_114, n_114, hw⟩ := Lx1_2_abs hw
          have hX_114 : ∀ (v7_114e : Int32) (H : Heap) (locs : List Loc) (ls : Array Slot), kx_114 v7_114e → HW (dC, dI) A s.heap [(a_this, .inr (6, [.int c_this_columns, .int c_this_rows, .int c_this_aims, .ref a_this_lows, .ref a_this_highs, .ref a_this_rights, .ref a_this_terms, .ref a_this_costs, .ref a_this_froms, .ref a_this_tos, .int c_this_gone, .int c_this_plans, .ref a_this_planPoint, .ref a_this_planScore, .int c_this_front, .ref a_this_frontPlan, .ref a_this_frontTies, .int c_this_picks, .ref a_this_pick, .int c_this_hasClimbed, .ref a_this_end, .ref a_this_point, .ref a_this_score, .ref a_this_by, .ref a_this_four, .ref a_this_isNear, .ref a_this_number, .ref a_this_numbers, .ref a_this_place, .ref a_this_was])), (a_this_four, .inl (cI, 4, .inl c_this_four_6)), (a_this_frontPlan, .inl (cI, 2000, .inl c_this_frontPlan)), (a_this_planScore, .inl (cI, 8000, .inl c_this_planScore))] H locs → lv_has ls 9 [(7, .int v7_114e)] → W p l e rm_X7_weighted s m args below meth c H locs 0 0 Q (F0 m 154 ls []) := by
            intro v7_114e H locs ls hw hG hl
            have hw := hkx_114 _ hw
            refine lv_iload K.1 K.2.1 dX7_weighted_154 (lv_at hl 0 rfl) ?_
            exact hret v7_114e c_this_four_6 H locs _ ls dX7_weighted_156 rfl hw hG
          have hL_114 : ∀ (n : Nat), ∀ (v7_114 : Int32) (v8_114 : Int32) (H : Heap) (locs : List Loc) (ls : Array Slot), Lp2 (b_X7_weighted_114 c_this_aims c_this_front c_this_frontPlan c_this_planScore c_this_four_6 kx_114) n v7_114 v8_114 → HW (dC, dI) A s.heap [(a_this, .inr (6, [.int c_this_columns, .int c_this_rows, .int c_this_aims, .ref a_this_lows, .ref a_this_highs, .ref a_this_rights, .ref a_this_terms, .ref a_this_costs, .ref a_this_froms, .ref a_this_tos, .int c_this_gone, .int c_this_plans, .ref a_this_planPoint, .ref a_this_planScore, .int c_this_front, .ref a_this_frontPlan, .ref a_this_frontTies, .int c_this_picks, .ref a_this_pick, .int c_this_hasClimbed, .ref a_this_end, .ref a_this_point, .ref a_this_score, .ref a_this_by, .ref a_this_four, .ref a_this_isNear, .ref a_this_number, .ref a_this_numbers, .ref a_this_place, .ref a_this_was])), (a_this_four, .inl (cI, 4, .inl c_this_four_6)), (a_this_frontPlan, .inl (cI, 2000, .inl c_this_frontPlan)), (a_this_planScore, .inl (cI, 8000, .inl c_this_planScore))] H locs → lv_has ls 9 [(0, .ref a_this), (7, .int v7_114), (8, .int v8_114)] → W p l e rm_X7_weighted s m args below meth c H locs 0 0 Q (F0 m 114 ls []) := by
            intro n
            induction n with
            | zero => intro v7_114 v8_114 H locs ls hw; exact False.elim hw
            | succ n ih_114 =>
              intro v7_114 v8_114 H locs ls hw hG hl
              obtain ⟨w_114, hw_114, hw⟩ : ∃ w' : Int32 → Int32 → Prop, (∀ v7_114 v8_114, w' v7_114 v8_114 → Lp2 (b_X7_weighted_114 c_this_aims c_this_front c_this_frontPlan c_this_planScore c_this_four_6 kx_114) n v7_114 v8_114) ∧ b_X7_weighted_114 c_this_aims c_this_front c_this_frontPlan c_this_planScore c_this_four_6 kx_114 w' v7_114 v8_114 := ⟨_, fun _ _ h => h, hw⟩
              replace ih_114 : ∀ (v7_114 : Int32) (v8_114 : Int32) (H : Heap) (locs : List Loc) (ls : Array Slot), w_114 v7_114 v8_114 → HW (dC, dI) A s.heap [(a_this, .inr (6, [.int c_this_columns, .int c_this_rows, .int c_this_aims, .ref a_this_lows, .ref a_this_highs, .ref a_this_rights, .ref a_this_terms, .ref a_this_costs, .ref a_this_froms, .ref a_this_tos, .int c_this_gone, .int c_this_plans, .ref a_this_planPoint, .ref a_this_planScore, .int c_this_front, .ref a_this_frontPlan, .ref a_this_frontTies, .int c_this_picks, .ref a_this_pick, .int c_this_hasClimbed, .ref a_this_end, .ref a_this_point, .ref a_this_score, .ref a_this_by, .ref a_this_four, .ref a_this_isNear, .ref a_this_number, .ref a_this_numbers, .ref a_this_place, .ref a_this_was])), (a_this_four, .inl (cI, 4, .inl c_this_four_6)), (a_this_frontPlan, .inl (cI, 2000, .inl c_this_frontPlan)), (a_this_planScore, .inl (cI, 8000, .inl c_this_planScore))] H locs → lv_has ls 9 [(0, .ref a_this), (7, .int v7_114), (8, .int v8_114)] → W p l e rm_X7_weighted s m args below meth c H locs 0 0 Q (F0 m 114 ls []) := fun v7_114 v8_114 H locs ls h => ih_114 v7_114 v8_114 H locs ls (hw_114 _ _ h)
              unfold b_X7_weighted_114 at hw
              refine lv_iload K.1 K.2.1 dX7_weighted_114 (lv_at hl 2 rfl) ?_
              refine lv_aload_n K.1 K.2.1 dX7_weighted_116 rfl (lv_at hl 0 rfl) ?_
              refine g_get (v := .int c_this_front) K hG hin_RX7 0 rfl rfl 14 (by decide) (K.2.2.2.2.1 (.fieldLink RX7 98 "AimFrontsModel" "front" "I") (by decide +kernel)) rfl rfl dX7_weighted_117 ?_
              refine lv_icmp_ge (tgt := 154) K.1 K.2.1 dX7_weighted_120 (by decide) (fun q_120 => ?_) (fun q_120 => ?_)
              · have hw := hw.1 q_120
                exact hX_114 v7_114 H locs ls hw hG (lv_sub hl [1] rfl)
              · have hw := hw.2 q_120
                refine lv_aload_n K.1 K.2.1 dX7_weighted_123 rfl (lv_at hl 0 rfl) ?_
                refine lv_iload K.1 K.2.1 dX7_weighted_124 (lv_at hl 2 rfl) ?_
                refine g_rl K hG [0, 1, 2, 3] rfl (g_runV (As := [.int v8_114]) (rest := []) K hG hl [0, 1, 2, 3] rfl rfl 0 rfl rfl (k_X7_weigh l dC dI cI cJ cZ cG H.size a_this a_this_lows a_this_highs a_this_rights a_this_terms a_this_costs a_this_froms a_this_tos a_this_planPoint a_this_planScore a_this_frontPlan a_this_frontTies a_this_pick a_this_end a_this_point a_this_score a_this_by a_this_four a_this_isNear a_this_number a_this_numbers a_this_place a_this_was c_this_aims c_this_columns c_this_four_6 c_this_front c_this_frontPlan c_this_gone c_this_hasClimbed c_this_picks c_this_planScore c_this_plans c_this_rows v8_114 _ hw) (cwV 1 K.2.2.2.2.1 gX7_weighted_X7_weigh rfl rfl rfl (by decide +kernel) ⟨by decide, by decide⟩) rfl rfl (Nat.le_of_ble_eq_true rfl) ⟨Nat.zero_le _, Nat.zero_le _⟩ dX7_weighted_126) (fun r_126 H locs hw hG => ?_)
                refine lv_aload_n K.1 K.2.1 dX7_weighted_129 rfl (lv_at hl 0 rfl) ?_
                refine lv_iload K.1 K.2.1 dX7_weighted_130 (lv_at hl 1 rfl) ?_
                refine g_rl K hG [0, 1, 2, 3] rfl (g_runV (As := [.int v7_114]) (rest := [.long r_126]) K hG hl [0, 1, 2, 3] rfl rfl 0 rfl rfl (k_X7_weigh l dC dI cI cJ cZ cG H.size a_this a_this_lows a_this_highs a_this_rights a_this_terms a_this_costs a_this_froms a_this_tos a_this_planPoint a_this_planScore a_this_frontPlan a_this_frontTies a_this_pick a_this_end a_this_point a_this_score a_this_by a_this_four a_this_isNear a_this_number a_this_numbers a_this_place a_this_was c_this_aims c_this_columns c_this_four_6 c_this_front c_this_frontPlan c_this_gone c_this_hasClimbed c_this_picks c_this_planScore c_this_plans c_this_rows v7_114 _ hw) (cwV 1 K.2.2.2.2.1 gX7_weighted_X7_weigh rfl rfl rfl (by decide +kernel) ⟨by decide, by decide⟩) rfl rfl (Nat.le_of_ble_eq_true rfl) ⟨Nat.zero_le _, Nat.zero_le _⟩ dX7_weighted_132) (fun r_132 H locs hw hG => ?_)
                refine W.lcmp K.1 K.2.1 dX7_weighted_135 ?_
                refine lv_if_ge (tgt := 144) K.1 K.2.1 dX7_weighted_136 (by decide) (fun q_136 => ?_) (fun q_136 => ?_)
                · have hw := hw.1 ((lg_cmp_ge _ _).mp q_136)
                  refine lv_iload K.1 K.2.1 dX7_weighted_144 (lv_at hl 1 rfl) ?_
                  refine lv_istore (lv' := [(7, .int v7_114), (0, .ref a_this), (8, .int v8_114)]) K.1 K.2.1 dX7_weighted_146 hl (by decide) rfl (fun ls hl => ?_)
                  refine lv_iinc (v := (v8_114 + (1 : Int32))) (lv' := [(8, .int (v8_114 + (1 : Int32))), (7, .int v7_114), (0, .ref a_this)]) K.1 K.2.1 dX7_weighted_148 hl (k := 2) rfl rfl (by decide) rfl (fun ls hl => ?_)
                  refine lv_goto (tgt := 114) K.1 K.2.1 dX7_weighted_151 (by decide) ?_
                  exact ih_114 v7_114 (v8_114 + (1 : Int32)) H locs ls hw hG (lv_sub hl [2, 1, 0] rfl)
                · have hw := hw.2 (fun h9 => q_136 ((lg_cmp_ge _ _).mpr h9))
                  refine lv_iload K.1 K.2.1 dX7_weighted_139 (lv_at hl 2 rfl) ?_
                  refine lv_goto (tgt := 146) K.1 K.2.1 dX7_weighted_141 (by decide) ?_
                  refine lv_istore (lv' := [(7, .int v8_114), (0, .ref a_this), (8, .int v8_114)]) K.1 K.2.1 dX7_weighted_146 hl (by decide) rfl (fun ls hl => ?_)
                  refine lv_iinc (v := (v8_114 + (1 : Int32))) (lv' := [(8, .int (v8_114 + (1 : Int32))), (7, .int v8_114), (0, .ref a_this)]) K.1 K.2.1 dX7_weighted_148 hl (k := 2) rfl rfl (by decide) rfl (fun ls hl => ?_)
                  refine lv_goto (tgt := 114) K.1 K.2.1 dX7_weighted_151 (by decide) ?_
                  exact ih_114 v8_114 (v8_114 + (1 : Int32)) H locs ls hw hG (lv_sub hl [2, 1, 0] rfl)
          exact hL_114 n_114 (0 : Int32) (1 : Int32) H locs ls hw hG (lv_sub hl [2, 1, 0] rfl)
        · have hw := hw.2 q_102
          refine lv_ldc (v := -1000002) K.1 K.2.1 K.2.2.2.1 (K.2.2.2.2.1 (.constant RX7 161 (-1000002)) (by decide +kernel)) dX7_weighted_105 ?_
          exact hret (-1000002 : Int32) c_this_four_6 H locs _ ls dX7_weighted_107 rfl hw hG
    · have hw := hw.1 q_87
      refine lv_ldc (v := -1000001) K.1 K.2.1 K.2.2.2.1 (K.2.2.2.2.1 (.constant RX7 112 (-1000001)) (by decide +kernel)) dX7_weighted_90 ?_
      exact hret (-1000001 : Int32) c_this_four_6 H locs _ ls dX7_weighted_92 rfl hw hG
  have hL_18 : ∀ (n : Nat), ∀ (v5_18 : Int32) (v6_18 : Int32) (v7_18 : Int32) (H : Heap) (locs : List Loc) (ls : Array Slot), Lp3 (b_X7_weighted_18 c_this_aims c_this_four_6 kx_18) n v5_18 v6_18 v7_18 → HW (dC, dI) A s.heap [(a_this, .inr (6, [.int c_this_columns, .int c_this_rows, .int c_this_aims, .ref a_this_lows, .ref a_this_highs, .ref a_this_rights, .ref a_this_terms, .ref a_this_costs, .ref a_this_froms, .ref a_this_tos, .int c_this_gone, .int c_this_plans, .ref a_this_planPoint, .ref a_this_planScore, .int c_this_front, .ref a_this_frontPlan, .ref a_this_frontTies, .int c_this_picks, .ref a_this_pick, .int c_this_hasClimbed, .ref a_this_end, .ref a_this_point, .ref a_this_score, .ref a_this_by, .ref a_this_four, .ref a_this_isNear, .ref a_this_number, .ref a_this_numbers, .ref a_this_place, .ref a_this_was])), (a_this_four, .inl (cI, 4, .inl c_this_four_6)), (a_this_frontPlan, .inl (cI, 2000, .inl c_this_frontPlan)), (a_this_planScore, .inl (cI, 8000, .inl c_this_planScore))] H locs → lv_has ls 9 [(0, .ref a_this), (5, .int v5_18), (6, .int v6_18), (7, .int v7_18)] → W p l e rm_X7_weighted s m args below meth c H locs 0 0 Q (F0 m 18 ls []) := by
    intro n
    induction n with
    | zero => intro v5_18 v6_18 v7_18 H locs ls hw; exact False.elim hw
    | succ n ih_18 =>
      intro v5_18 v6_18 v7_18 H locs ls hw hG hl
      obtain ⟨w_18, hw_18, hw⟩ : ∃ w' : Int32 → Int32 → Int32 → Prop, (∀ v5_18 v6_18 v7_18, w' v5_18 v6_18 v7_18 → Lp3 (b_X7_weighted_18 c_this_aims c_this_four_6 kx_18) n v5_18 v6_18 v7_18) ∧ b_X7_weighted_18 c_this_aims c_this_four_6 kx_18 w' v5_18 v6_18 v7_18 := ⟨_, fun _ _ _ h => h, hw⟩
      replace ih_18 : ∀ (v5_18 : Int32) (v6_18 : Int32) (v7_18 : Int32) (H : Heap) (locs : List Loc) (ls : Array Slot), w_18 v5_18 v6_18 v7_18 → HW (dC, dI) A s.heap [(a_this, .inr (6, [.int c_this_columns, .int c_this_rows, .int c_this_aims, .ref a_this_lows, .ref a_this_highs, .ref a_this_rights, .ref a_this_terms, .ref a_this_costs, .ref a_this_froms, .ref a_this_tos, .int c_this_gone, .int c_this_plans, .ref a_this_planPoint, .ref a_this_planScore, .int c_this_front, .ref a_this_frontPlan, .ref a_this_frontTies, .int c_this_picks, .ref a_this_pick, .int c_this_hasClimbed, .ref a_this_end, .ref a_this_point, .ref a_this_score, .ref a_this_by, .ref a_this_four, .ref a_this_isNear, .ref a_this_number, .ref a_this_numbers, .ref a_this_place, .ref a_this_was])), (a_this_four, .inl (cI, 4, .inl c_this_four_6)), (a_this_frontPlan, .inl (cI, 2000, .inl c_this_frontPlan)), (a_this_planScore, .inl (cI, 8000, .inl c_this_planScore))] H locs → lv_has ls 9 [(0, .ref a_this), (5, .int v5_18), (6, .int v6_18), (7, .int v7_18)] → W p l e rm_X7_weighted s m args below meth c H locs 0 0 Q (F0 m 18 ls []) := fun v5_18 v6_18 v7_18 H locs ls h => ih_18 v5_18 v6_18 v7_18 H locs ls (hw_18 _ _ _ h)
      unfold b_X7_weighted_18 at hw
      refine lv_iload K.1 K.2.1 dX7_weighted_18 (lv_at hl 3 rfl) ?_
      refine lv_aload_n K.1 K.2.1 dX7_weighted_20 rfl (lv_at hl 0 rfl) ?_
      refine g_get (v := .int c_this_aims) K hG hin_RX7 0 rfl rfl 2 (by decide) (K.2.2.2.2.1 (.fieldLink RX7 89 "AimFrontsModel" "aims" "I") (by decide +kernel)) rfl rfl dX7_weighted_21 ?_
      refine lv_icmp_ge (tgt := 85) K.1 K.2.1 dX7_weighted_24 (by decide) (fun q_24 => ?_) (fun q_24 => ?_)
      · have hw := hw.1 q_24
        exact hX_18 v5_18 v6_18 H locs ls hw hG (lv_sub hl [0, 1, 2] rfl)
      · have hw := hw.2 q_24
        refine lv_iload K.1 K.2.1 dX7_weighted_27 (lv_at hl 1 rfl) ?_
        obtain ⟨k_j55, hk_j55, hw⟩ := jn1_abs hw
        have hJ_j55 : ∀ (s0_j55 : Int32) (H : Heap) (locs : List Loc) (ls : Array Slot), k_j55 s0_j55 → HW (dC, dI) A s.heap [(a_this, .inr (6, [.int c_this_columns, .int c_this_rows, .int c_this_aims, .ref a_this_lows, .ref a_this_highs, .ref a_this_rights, .ref a_this_terms, .ref a_this_costs, .ref a_this_froms, .ref a_this_tos, .int c_this_gone, .int c_this_plans, .ref a_this_planPoint, .ref a_this_planScore, .int c_this_front, .ref a_this_frontPlan, .ref a_this_frontTies, .int c_this_picks, .ref a_this_pick, .int c_this_hasClimbed, .ref a_this_end, .ref a_this_point, .ref a_this_score, .ref a_this_by, .ref a_this_four, .ref a_this_isNear, .ref a_this_number, .ref a_this_numbers, .ref a_this_place, .ref a_this_was])), (a_this_four, .inl (cI, 4, .inl c_this_four_6)), (a_this_frontPlan, .inl (cI, 2000, .inl c_this_frontPlan)), (a_this_planScore, .inl (cI, 8000, .inl c_this_planScore))] H locs → lv_has ls 9 [(0, .ref a_this), (6, .int v6_18), (7, .int v7_18)] → W p l e rm_X7_weighted s m args below meth c H locs 0 0 Q (F0 m 55 ls [.int s0_j55]) := by
          intro s0_j55 H locs ls hw hG hl
          have hw := hk_j55 _ hw
          refine lv_istore (lv' := [(5, .int s0_j55), (0, .ref a_this), (6, .int v6_18), (7, .int v7_18)]) K.1 K.2.1 dX7_weighted_55 hl (by decide) rfl (fun ls hl => ?_)
          refine lv_iload K.1 K.2.1 dX7_weighted_57 (lv_at hl 2 rfl) ?_
          refine lv_if_eq (tgt := 76) K.1 K.2.1 dX7_weighted_59 (by decide) (fun q_59 => ?_) (fun q_59 => ?_)
          · have hw := hw.1 q_59
            refine lv_iconst (v := 0) K.1 K.2.1 dX7_weighted_76 (by decide) ?_
            refine lv_istore (lv' := [(6, .int (0 : Int32)), (5, .int s0_j55), (0, .ref a_this), (7, .int v7_18)]) K.1 K.2.1 dX7_weighted_77 hl (by decide) rfl (fun ls hl => ?_)
            refine lv_iinc (v := (v7_18 + (1 : Int32))) (lv' := [(7, .int (v7_18 + (1 : Int32))), (6, .int (0 : Int32)), (5, .int s0_j55), (0, .ref a_this)]) K.1 K.2.1 dX7_weighted_79 hl (k := 3) rfl rfl (by decide) rfl (fun ls hl => ?_)
            refine lv_goto (tgt := 18) K.1 K.2.1 dX7_weighted_82 (by decide) ?_
            exact ih_18 s0_j55 (0 : Int32) (v7_18 + (1 : Int32)) H locs ls hw hG (lv_sub hl [3, 2, 1, 0] rfl)
          · have hw := hw.2 q_59
            refine lv_aload_n K.1 K.2.1 dX7_weighted_62 rfl (lv_at hl 1 rfl) ?_
            refine g_get (v := .ref a_this_four) K hG hin_RX7 0 rfl rfl 24 (by decide) (K.2.2.2.2.1 (.fieldLink RX7 59 "AimFrontsModel" "four" "[I") (by decide +kernel)) rfl rfl dX7_weighted_63 ?_
            refine lv_iload K.1 K.2.1 dX7_weighted_66 (lv_at hl 3 rfl) ?_
            obtain ⟨h_68, hw⟩ := hw
            refine g_iald K hG 1 rfl h_68 dX7_weighted_68 ?_
            refine lv_if_ne (tgt := 76) K.1 K.2.1 dX7_weighted_69 (by decide) (fun q_69 => ?_) (fun q_69 => ?_)
            · have hw := hw.2 q_69
              refine lv_iconst (v := 0) K.1 K.2.1 dX7_weighted_76 (by decide) ?_
              refine lv_istore (lv' := [(6, .int (0 : Int32)), (5, .int s0_j55), (0, .ref a_this), (7, .int v7_18)]) K.1 K.2.1 dX7_weighted_77 hl (by decide) rfl (fun ls hl => ?_)
              refine lv_iinc (v := (v7_18 + (1 : Int32))) (lv' := [(7, .int (v7_18 + (1 : Int32))), (6, .int (0 : Int32)), (5, .int s0_j55), (0, .ref a_this)]) K.1 K.2.1 dX7_weighted_79 hl (k := 3) rfl rfl (by decide) rfl (fun ls hl => ?_)
              refine lv_goto (tgt := 18) K.1 K.2.1 dX7_weighted_82 (by decide) ?_
              exact ih_18 s0_j55 (0 : Int32) (v7_18 + (1 : Int32)) H locs ls hw hG (lv_sub hl [3, 2, 1, 0] rfl)
            · have hw := hw.1 q_69
              refine lv_iconst (v := 1) K.1 K.2.1 dX7_weighted_72 (by decide) ?_
              refine lv_goto (tgt := 77) K.1 K.2.1 dX7_weighted_73 (by decide) ?_
              refine lv_istore (lv' := [(6, .int (1 : Int32)), (5, .int s0_j55), (0, .ref a_this), (7, .int v7_18)]) K.1 K.2.1 dX7_weighted_77 hl (by decide) rfl (fun ls hl => ?_)
              refine lv_iinc (v := (v7_18 + (1 : Int32))) (lv' := [(7, .int (v7_18 + (1 : Int32))), (6, .int (1 : Int32)), (5, .int s0_j55), (0, .ref a_this)]) K.1 K.2.1 dX7_weighted_79 hl (k := 3) rfl rfl (by decide) rfl (fun ls hl => ?_)
              refine lv_goto (tgt := 18) K.1 K.2.1 dX7_weighted_82 (by decide) ?_
              exact ih_18 s0_j55 (1 : Int32) (v7_18 + (1 : Int32)) H locs ls hw hG (lv_sub hl [3, 2, 1, 0] rfl)
        refine lv_if_eq (tgt := 54) K.1 K.2.1 dX7_weighted_29 (by decide) (fun q_29 => ?_) (fun q_29 => ?_)
        · have hw := hw.1 q_29
          refine lv_iconst (v := 0) K.1 K.2.1 dX7_weighted_54 (by decide) ?_
          exact hJ_j55 (0 : Int32) H locs ls hw hG (lv_sub hl [0, 2, 3] rfl)
        · have hw := hw.2 q_29
          refine lv_aload_n K.1 K.2.1 dX7_weighted_32 rfl (lv_at hl 0 rfl) ?_
          refine g_get (v := .ref a_this_four) K hG hin_RX7 0 rfl rfl 24 (by decide) (K.2.2.2.2.1 (.fieldLink RX7 59 "AimFrontsModel" "four" "[I") (by decide +kernel)) rfl rfl dX7_weighted_33 ?_
          refine lv_iload K.1 K.2.1 dX7_weighted_36 (lv_at hl 3 rfl) ?_
          obtain ⟨h_38, hw⟩ := hw
          refine g_iald K hG 1 rfl h_38 dX7_weighted_38 ?_
          refine lv_i2l K.1 K.2.1 dX7_weighted_39 rfl ?_
          refine lv_lconst (v := 0) K.1 K.2.1 dX7_weighted_40 (by decide) ?_
          refine lv_ldc2 (v := 100) K.1 K.2.1 K.2.2.2.1 (K.2.2.2.2.1 (.constantLong RX7 194 (100)) (by decide +kernel)) dX7_weighted_41 ?_
          refine g_ri K hG [] rfl (g_runS (As := [.long (((c_this_four_6 (v7_18).toNatClampNeg)).toInt64), .long (0 : Int64), .long (100 : Int64)]) (rest := []) K hG hl [] rfl rfl (k_X7_in l dC dI cI cJ cZ cG H.size (((c_this_four_6 (v7_18).toNatClampNeg)).toInt64) (0 : Int64) (100 : Int64) _ hw) (va_cwS 3 K.2.2.2.2.1 gX7_weighted_X7_in rfl rfl rfl (by decide +kernel) ⟨by decide, by decide⟩) rfl rfl (Nat.le_of_ble_eq_true rfl) ⟨Nat.zero_le _, Nat.zero_le _⟩ dX7_weighted_44) (fun r_44 H locs hw hG => ?_)
          refine lv_if_eq (tgt := 54) K.1 K.2.1 dX7_weighted_47 (by decide) (fun q_47 => ?_) (fun q_47 => ?_)
          · have hw := hw.1 q_47
            refine lv_iconst (v := 0) K.1 K.2.1 dX7_weighted_54 (by decide) ?_
            exact hJ_j55 (0 : Int32) H locs ls hw hG (lv_sub hl [0, 2, 3] rfl)
          · have hw := hw.2 q_47
            refine lv_iconst (v := 1) K.1 K.2.1 dX7_weighted_50 (by decide) ?_
            refine lv_goto (tgt := 55) K.1 K.2.1 dX7_weighted_51 (by decide) ?_
            exact hJ_j55 (1 : Int32) H locs ls hw hG (lv_sub hl [0, 2, 3] rfl)
  exact hL_18 n_18 (1 : Int32) (1 : Int32) (0 : Int32) H locs ls hw hG (lv_sub hl [3, 2, 1, 0] rfl)
abbrev rm_X7_isFirst : Room := { frames := 2, cells := 0, slots := 0, locals := 44 }
set_option maxHeartbeats 4000000 in
set_option maxRecDepth 100000 in
theorem k_X7_isFirst (l : Launch) (dC : Nat → ClassId) (dI : Nat → Nat → Nat) (cI cJ cZ cG : ClassId) (sz : Nat) (a_this a_this_lows a_this_highs a_this_rights a_this_terms a_this_costs a_this_froms a_this_tos a_this_planPoint a_this_planScore a_this_frontPlan a_this_frontTies a_this_pick a_this_end a_this_point a_this_score a_this_by a_this_four a_this_isNear a_this_number a_this_numbers a_this_place a_this_was : Nat) (c_this_aims : Int32) (c_this_columns : Int32) (c_this_four : Nat → Int32) (c_this_front : Int32) (c_this_frontPlan : Nat → Int32) (c_this_gone : Int32) (c_this_hasClimbed : Int32) (c_this_picks : Int32) (c_this_planScore : Nat → Int32) (c_this_plans : Int32) (c_this_rows : Int32) (x1 : Int32) (x2 : Int32) (x3 : Int32) (post : Int32 → Prop) (hw : wp_X7_isFirst c_this_four c_this_frontPlan c_this_planScore x1 x2 x3 post) : MetI l yX7_isFirst wsX7_isFirst rm_X7_isFirst (dC, dI) cI cJ cZ cG [.ref a_this, .int x1, .int x2, .int x3] sz [(a_this, .inr (6, [.int c_this_columns, .int c_this_rows, .int c_this_aims, .ref a_this_lows, .ref a_this_highs, .ref a_this_rights, .ref a_this_terms, .ref a_this_costs, .ref a_this_froms, .ref a_this_tos, .int c_this_gone, .int c_this_plans, .ref a_this_planPoint, .ref a_this_planScore, .int c_this_front, .ref a_this_frontPlan, .ref a_this_frontTies, .int c_this_picks, .ref a_this_pick, .int c_this_hasClimbed, .ref a_this_end, .ref a_this_point, .ref a_this_score, .ref a_this_by, .ref a_this_four, .ref a_this_isNear, .ref a_this_number, .ref a_this_numbers, .ref a_this_place, .ref a_this_was])), (a_this_four, .inl (cI, 4, .inl c_this_four)), (a_this_frontPlan, .inl (cI, 2000, .inl c_this_frontPlan)), (a_this_planScore, .inl (cI, 8000, .inl c_this_planScore))] (fun (r : Int32) (u : Unit) => post r) (fun u => [(a_this, .inr (6, [.int c_this_columns, .int c_this_rows, .int c_this_aims, .ref a_this_lows, .ref a_this_highs, .ref a_this_rights, .ref a_this_terms, .ref a_this_costs, .ref a_this_froms, .ref a_this_tos, .int c_this_gone, .int c_this_plans, .ref a_this_planPoint, .ref a_this_planScore, .int c_this_front, .ref a_this_frontPlan, .ref a_this_frontTies, .int c_this_picks, .ref a_this_pick, .int c_this_hasClimbed, .ref a_this_end, .ref a_this_point, .ref a_this_score, .ref a_this_by, .ref a_this_four, .ref a_this_isNear, .ref a_this_number, .ref a_this_numbers, .ref a_this_place, .ref a_this_was])), (a_this_four, .inl (cI, 4, .inl c_this_four)), (a_this_frontPlan, .inl (cI, 2000, .inl c_this_frontPlan)), (a_this_planScore, .inl (cI, 8000, .inl c_this_planScore))]) := by
  refine met_i (ty := .boolean) (Or.inr rfl) (cc := cX7_isFirst) (maxL := 6) (by decide) rfl (Nat.le_of_ble_eq_true rfl) ?_
  intro p e s m args below meth c A Q H locs ls K hG hl hret
  have hl : lv_has ls 6 [(0, .ref a_this), (1, .int x1), (2, .int x2), (3, .int x3)] := hl
  have hin_RX7 : ∀ w ∈ u_ws RX7 TX7 30, w ∈ wsX7_isFirst := by decide +kernel
  unfold wp_X7_isFirst at hw
  refine lv_iconst (v := 0) K.1 K.2.1 dX7_isFirst_0 (by decide) ?_
  refine lv_istore (lv' := [(4, .int (0 : Int32)), (0, .ref a_this), (1, .int x1), (2, .int x2), (3, .int x3)]) K.1 K.2.1 dX7_isFirst_1 hl (by decide) rfl (fun ls hl => ?_)
  obtain ⟨kx_3, hkx_3, n_3, hw⟩ := Lx0_1_abs hw
  have hX_3 : ∀  (H : Heap) (locs : List Loc) (ls : Array Slot), kx_3 → HW (dC, dI) A s.heap [(a_this, .inr (6, [.int c_this_columns, .int c_this_rows, .int c_this_aims, .ref a_this_lows, .ref a_this_highs, .ref a_this_rights, .ref a_this_terms, .ref a_this_costs, .ref a_this_froms, .ref a_this_tos, .int c_this_gone, .int c_this_plans, .ref a_this_planPoint, .ref a_this_planScore, .int c_this_front, .ref a_this_frontPlan, .ref a_this_frontTies, .int c_this_picks, .ref a_this_pick, .int c_this_hasClimbed, .ref a_this_end, .ref a_this_point, .ref a_this_score, .ref a_this_by, .ref a_this_four, .ref a_this_isNear, .ref a_this_number, .ref a_this_numbers, .ref a_this_place, .ref a_this_was])), (a_this_four, .inl (cI, 4, .inl c_this_four)), (a_this_frontPlan, .inl (cI, 2000, .inl c_this_frontPlan)), (a_this_planScore, .inl (cI, 8000, .inl c_this_planScore))] H locs → lv_has ls 6 [] → W p l e rm_X7_isFirst s m args below meth c H locs 0 0 Q (F0 m 64 ls []) := by
    intro H locs ls hw hG hl
    have hw := hkx_3 hw
    refine lv_iconst (v := 0) K.1 K.2.1 dX7_isFirst_64 (by decide) ?_
    exact hret (0 : Int32) () H locs _ ls dX7_isFirst_65 rfl hw hG
  have hL_3 : ∀ (n : Nat), ∀ (v4_3 : Int32) (H : Heap) (locs : List Loc) (ls : Array Slot), Lp1 (b_X7_isFirst_3 c_this_four c_this_frontPlan c_this_planScore x1 x2 x3 post kx_3) n v4_3 → HW (dC, dI) A s.heap [(a_this, .inr (6, [.int c_this_columns, .int c_this_rows, .int c_this_aims, .ref a_this_lows, .ref a_this_highs, .ref a_this_rights, .ref a_this_terms, .ref a_this_costs, .ref a_this_froms, .ref a_this_tos, .int c_this_gone, .int c_this_plans, .ref a_this_planPoint, .ref a_this_planScore, .int c_this_front, .ref a_this_frontPlan, .ref a_this_frontTies, .int c_this_picks, .ref a_this_pick, .int c_this_hasClimbed, .ref a_this_end, .ref a_this_point, .ref a_this_score, .ref a_this_by, .ref a_this_four, .ref a_this_isNear, .ref a_this_number, .ref a_this_numbers, .ref a_this_place, .ref a_this_was])), (a_this_four, .inl (cI, 4, .inl c_this_four)), (a_this_frontPlan, .inl (cI, 2000, .inl c_this_frontPlan)), (a_this_planScore, .inl (cI, 8000, .inl c_this_planScore))] H locs → lv_has ls 6 [(0, .ref a_this), (1, .int x1), (2, .int x2), (3, .int x3), (4, .int v4_3)] → W p l e rm_X7_isFirst s m args below meth c H locs 0 0 Q (F0 m 3 ls []) := by
    intro n
    induction n with
    | zero => intro v4_3 H locs ls hw; exact False.elim hw
    | succ n ih_3 =>
      intro v4_3 H locs ls hw hG hl
      obtain ⟨w_3, hw_3, hw⟩ : ∃ w' : Int32 → Prop, (∀ v4_3, w' v4_3 → Lp1 (b_X7_isFirst_3 c_this_four c_this_frontPlan c_this_planScore x1 x2 x3 post kx_3) n v4_3) ∧ b_X7_isFirst_3 c_this_four c_this_frontPlan c_this_planScore x1 x2 x3 post kx_3 w' v4_3 := ⟨_, fun _ h => h, hw⟩
      replace ih_3 : ∀ (v4_3 : Int32) (H : Heap) (locs : List Loc) (ls : Array Slot), w_3 v4_3 → HW (dC, dI) A s.heap [(a_this, .inr (6, [.int c_this_columns, .int c_this_rows, .int c_this_aims, .ref a_this_lows, .ref a_this_highs, .ref a_this_rights, .ref a_this_terms, .ref a_this_costs, .ref a_this_froms, .ref a_this_tos, .int c_this_gone, .int c_this_plans, .ref a_this_planPoint, .ref a_this_planScore, .int c_this_front, .ref a_this_frontPlan, .ref a_this_frontTies, .int c_this_picks, .ref a_this_pick, .int c_this_hasClimbed, .ref a_this_end, .ref a_this_point, .ref a_this_score, .ref a_this_by, .ref a_this_four, .ref a_this_isNear, .ref a_this_number, .ref a_this_numbers, .ref a_this_place, .ref a_this_was])), (a_this_four, .inl (cI, 4, .inl c_this_four)), (a_this_frontPlan, .inl (cI, 2000, .inl c_this_frontPlan)), (a_this_planScore, .inl (cI, 8000, .inl c_this_planScore))] H locs → lv_has ls 6 [(0, .ref a_this), (1, .int x1), (2, .int x2), (3, .int x3), (4, .int v4_3)] → W p l e rm_X7_isFirst s m args below meth c H locs 0 0 Q (F0 m 3 ls []) := fun v4_3 H locs ls h => ih_3 v4_3 H locs ls (hw_3 _ h)
      unfold b_X7_isFirst_3 at hw
      refine lv_iload K.1 K.2.1 dX7_isFirst_3 (lv_at hl 4 rfl) ?_
      refine lv_iload_n K.1 K.2.1 dX7_isFirst_5 rfl (lv_at hl 3 rfl) ?_
      refine lv_icmp_ge (tgt := 64) K.1 K.2.1 dX7_isFirst_6 (by decide) (fun q_6 => ?_) (fun q_6 => ?_)
      · have hw := hw.1 q_6
        exact hX_3 H locs ls hw hG (lv_sub hl [] rfl)
      · have hw := hw.2 q_6
        refine lv_aload_n K.1 K.2.1 dX7_isFirst_9 rfl (lv_at hl 0 rfl) ?_
        refine g_get (v := .ref a_this_four) K hG hin_RX7 0 rfl rfl 24 (by decide) (K.2.2.2.2.1 (.fieldLink RX7 59 "AimFrontsModel" "four" "[I") (by decide +kernel)) rfl rfl dX7_isFirst_10 ?_
        refine lv_iload K.1 K.2.1 dX7_isFirst_13 (lv_at hl 4 rfl) ?_
        obtain ⟨h_15, hw⟩ := hw
        refine g_iald K hG 1 rfl h_15 dX7_isFirst_15 ?_
        refine lv_istore (lv' := [(5, .int (c_this_four (v4_3).toNatClampNeg)), (0, .ref a_this), (1, .int x1), (2, .int x2), (3, .int x3), (4, .int v4_3)]) K.1 K.2.1 dX7_isFirst_16 hl (by decide) rfl (fun ls hl => ?_)
        refine lv_aload_n K.1 K.2.1 dX7_isFirst_18 rfl (lv_at hl 1 rfl) ?_
        refine lv_iload_n K.1 K.2.1 dX7_isFirst_19 rfl (lv_at hl 2 rfl) ?_
        refine lv_iload K.1 K.2.1 dX7_isFirst_20 (lv_at hl 0 rfl) ?_
        refine g_ri K hG [0, 2, 3] rfl (g_runV (As := [.int x1, .int (c_this_four (v4_3).toNatClampNeg)]) (rest := []) K hG hl [0, 2, 3] rfl rfl 0 rfl rfl (k_X7_at l dC dI cI cJ cZ cG H.size a_this a_this_lows a_this_highs a_this_rights a_this_terms a_this_costs a_this_froms a_this_tos a_this_planPoint a_this_planScore a_this_frontPlan a_this_frontTies a_this_pick a_this_end a_this_point a_this_score a_this_by a_this_four a_this_isNear a_this_number a_this_numbers a_this_place a_this_was c_this_aims c_this_columns c_this_front c_this_frontPlan c_this_gone c_this_hasClimbed c_this_picks c_this_planScore c_this_plans c_this_rows x1 (c_this_four (v4_3).toNatClampNeg) _ hw) (cwV 2 K.2.2.2.2.1 gX7_isFirst_X7_at rfl rfl rfl (by decide +kernel) ⟨by decide, by decide⟩) rfl rfl (Nat.le_of_ble_eq_true rfl) ⟨Nat.zero_le _, Nat.zero_le _⟩ dX7_isFirst_22) (fun r_22 H locs hw hG => ?_)
        refine lv_aload_n K.1 K.2.1 dX7_isFirst_25 rfl (lv_at hl 1 rfl) ?_
        refine lv_iload_n K.1 K.2.1 dX7_isFirst_26 rfl (lv_at hl 3 rfl) ?_
        refine lv_iload K.1 K.2.1 dX7_isFirst_27 (lv_at hl 0 rfl) ?_
        refine g_ri K hG [0, 2, 3] rfl (g_runV (As := [.int x2, .int (c_this_four (v4_3).toNatClampNeg)]) (rest := [.int r_22]) K hG hl [0, 2, 3] rfl rfl 0 rfl rfl (k_X7_at l dC dI cI cJ cZ cG H.size a_this a_this_lows a_this_highs a_this_rights a_this_terms a_this_costs a_this_froms a_this_tos a_this_planPoint a_this_planScore a_this_frontPlan a_this_frontTies a_this_pick a_this_end a_this_point a_this_score a_this_by a_this_four a_this_isNear a_this_number a_this_numbers a_this_place a_this_was c_this_aims c_this_columns c_this_front c_this_frontPlan c_this_gone c_this_hasClimbed c_this_picks c_this_planScore c_this_plans c_this_rows x2 (c_this_four (v4_3).toNatClampNeg) _ hw) (cwV 2 K.2.2.2.2.1 gX7_isFirst_X7_at rfl rfl rfl (by decide +kernel) ⟨by decide, by decide⟩) rfl rfl (Nat.le_of_ble_eq_true rfl) ⟨Nat.zero_le _, Nat.zero_le _⟩ dX7_isFirst_29) (fun r_29 H locs hw hG => ?_)
        refine lv_icmp_eq (tgt := 58) K.1 K.2.1 dX7_isFirst_32 (by decide) (fun q_32 => ?_) (fun q_32 => ?_)
        · have hw := hw.1 q_32
          refine lv_iinc (v := (v4_3 + (1 : Int32))) (lv' := [(4, .int (v4_3 + (1 : Int32))), (5, .int (c_this_four (v4_3).toNatClampNeg)), (0, .ref a_this), (1, .int x1), (2, .int x2), (3, .int x3)]) K.1 K.2.1 dX7_isFirst_58 hl (k := 5) rfl rfl (by decide) rfl (fun ls hl => ?_)
          refine lv_goto (tgt := 3) K.1 K.2.1 dX7_isFirst_61 (by decide) ?_
          exact ih_3 (v4_3 + (1 : Int32)) H locs ls hw hG (lv_sub hl [2, 3, 4, 5, 0] rfl)
        · have hw := hw.2 q_32
          refine lv_aload_n K.1 K.2.1 dX7_isFirst_35 rfl (lv_at hl 1 rfl) ?_
          refine lv_iload_n K.1 K.2.1 dX7_isFirst_36 rfl (lv_at hl 2 rfl) ?_
          refine lv_iload K.1 K.2.1 dX7_isFirst_37 (lv_at hl 0 rfl) ?_
          refine g_ri K hG [0, 2, 3] rfl (g_runV (As := [.int x1, .int (c_this_four (v4_3).toNatClampNeg)]) (rest := []) K hG hl [0, 2, 3] rfl rfl 0 rfl rfl (k_X7_at l dC dI cI cJ cZ cG H.size a_this a_this_lows a_this_highs a_this_rights a_this_terms a_this_costs a_this_froms a_this_tos a_this_planPoint a_this_planScore a_this_frontPlan a_this_frontTies a_this_pick a_this_end a_this_point a_this_score a_this_by a_this_four a_this_isNear a_this_number a_this_numbers a_this_place a_this_was c_this_aims c_this_columns c_this_front c_this_frontPlan c_this_gone c_this_hasClimbed c_this_picks c_this_planScore c_this_plans c_this_rows x1 (c_this_four (v4_3).toNatClampNeg) _ hw) (cwV 2 K.2.2.2.2.1 gX7_isFirst_X7_at rfl rfl rfl (by decide +kernel) ⟨by decide, by decide⟩) rfl rfl (Nat.le_of_ble_eq_true rfl) ⟨Nat.zero_le _, Nat.zero_le _⟩ dX7_isFirst_39) (fun r_39 H locs hw hG => ?_)
          refine lv_aload_n K.1 K.2.1 dX7_isFirst_42 rfl (lv_at hl 1 rfl) ?_
          refine lv_iload_n K.1 K.2.1 dX7_isFirst_43 rfl (lv_at hl 3 rfl) ?_
          refine lv_iload K.1 K.2.1 dX7_isFirst_44 (lv_at hl 0 rfl) ?_
          refine g_ri K hG [0, 2, 3] rfl (g_runV (As := [.int x2, .int (c_this_four (v4_3).toNatClampNeg)]) (rest := [.int r_39]) K hG hl [0, 2, 3] rfl rfl 0 rfl rfl (k_X7_at l dC dI cI cJ cZ cG H.size a_this a_this_lows a_this_highs a_this_rights a_this_terms a_this_costs a_this_froms a_this_tos a_this_planPoint a_this_planScore a_this_frontPlan a_this_frontTies a_this_pick a_this_end a_this_point a_this_score a_this_by a_this_four a_this_isNear a_this_number a_this_numbers a_this_place a_this_was c_this_aims c_this_columns c_this_front c_this_frontPlan c_this_gone c_this_hasClimbed c_this_picks c_this_planScore c_this_plans c_this_rows x2 (c_this_four (v4_3).toNatClampNeg) _ hw) (cwV 2 K.2.2.2.2.1 gX7_isFirst_X7_at rfl rfl rfl (by decide +kernel) ⟨by decide, by decide⟩) rfl rfl (Nat.le_of_ble_eq_true rfl) ⟨Nat.zero_le _, Nat.zero_le _⟩ dX7_isFirst_46) (fun r_46 H locs hw hG => ?_)
          refine lv_icmp_ge (tgt := 56) K.1 K.2.1 dX7_isFirst_49 (by decide) (fun q_49 => ?_) (fun q_49 => ?_)
          · have hw := hw.1 q_49
            refine lv_iconst (v := 0) K.1 K.2.1 dX7_isFirst_56 (by decide) ?_
            exact hret (0 : Int32) () H locs _ ls dX7_isFirst_57 rfl hw hG
          · have hw := hw.2 q_49
            refine lv_iconst (v := 1) K.1 K.2.1 dX7_isFirst_52 (by decide) ?_
            refine lv_goto (tgt := 57) K.1 K.2.1 dX7_isFirst_53 (by decide) ?_
            exact hret (1 : Int32) () H locs _ ls dX7_isFirst_57 rfl hw hG
  exact hL_3 n_3 (0 : Int32) H locs ls hw hG (lv_sub hl [1, 2, 3, 4, 0] rfl)
abbrev rm_X7_first : Room := { frames := 3, cells := 0, slots := 0, locals := 69 }
set_option maxHeartbeats 4000000 in
set_option maxRecDepth 100000 in
theorem k_X7_first (l : Launch) (dC : Nat → ClassId) (dI : Nat → Nat → Nat) (cI cJ cZ cG : ClassId) (sz : Nat) (a_this a_this_lows a_this_highs a_this_rights a_this_terms a_this_costs a_this_froms a_this_tos a_this_planPoint a_this_planScore a_this_frontPlan a_this_frontTies a_this_pick a_this_end a_this_point a_this_score a_this_by a_this_four a_this_isNear a_this_number a_this_numbers a_this_place a_this_was : Nat) (c_this_aims : Int32) (c_this_columns : Int32) (c_this_four : Nat → Int32) (c_this_front : Int32) (c_this_frontPlan : Nat → Int32) (c_this_gone : Int32) (c_this_hasClimbed : Int32) (c_this_picks : Int32) (c_this_planScore : Nat → Int32) (c_this_plans : Int32) (c_this_rows : Int32) (x1 : Int32) (x2 : Int32) (x3 : Int32) (x4 : Int32) (post : Int32 → (Nat → Int32) → Prop) (hw : wp_X7_first c_this_aims c_this_four c_this_front c_this_frontPlan c_this_planScore x1 x2 x3 x4 post) : MetI l yX7_first wsX7_first rm_X7_first (dC, dI) cI cJ cZ cG [.ref a_this, .int x1, .int x2, .int x3, .int x4] sz [(a_this, .inr (6, [.int c_this_columns, .int c_this_rows, .int c_this_aims, .ref a_this_lows, .ref a_this_highs, .ref a_this_rights, .ref a_this_terms, .ref a_this_costs, .ref a_this_froms, .ref a_this_tos, .int c_this_gone, .int c_this_plans, .ref a_this_planPoint, .ref a_this_planScore, .int c_this_front, .ref a_this_frontPlan, .ref a_this_frontTies, .int c_this_picks, .ref a_this_pick, .int c_this_hasClimbed, .ref a_this_end, .ref a_this_point, .ref a_this_score, .ref a_this_by, .ref a_this_four, .ref a_this_isNear, .ref a_this_number, .ref a_this_numbers, .ref a_this_place, .ref a_this_was])), (a_this_four, .inl (cI, 4, .inl c_this_four)), (a_this_frontPlan, .inl (cI, 2000, .inl c_this_frontPlan)), (a_this_planScore, .inl (cI, 8000, .inl c_this_planScore))] (fun (r : Int32) (u : (Nat → Int32)) => post r u) (fun u => [(a_this, .inr (6, [.int c_this_columns, .int c_this_rows, .int c_this_aims, .ref a_this_lows, .ref a_this_highs, .ref a_this_rights, .ref a_this_terms, .ref a_this_costs, .ref a_this_froms, .ref a_this_tos, .int c_this_gone, .int c_this_plans, .ref a_this_planPoint, .ref a_this_planScore, .int c_this_front, .ref a_this_frontPlan, .ref a_this_frontTies, .int c_this_picks, .ref a_this_pick, .int c_this_hasClimbed, .ref a_this_end, .ref a_this_point, .ref a_this_score, .ref a_this_by, .ref a_this_four, .ref a_this_isNear, .ref a_this_number, .ref a_this_numbers, .ref a_this_place, .ref a_this_was])), (a_this_four, .inl (cI, 4, .inl u)), (a_this_frontPlan, .inl (cI, 2000, .inl c_this_frontPlan)), (a_this_planScore, .inl (cI, 8000, .inl c_this_planScore))]) := by
  refine met_i (ty := .int) (Or.inl rfl) (cc := cX7_first) (maxL := 8) (by decide) rfl (Nat.le_of_ble_eq_true rfl) ?_
  intro p e s m args below meth c A Q H locs ls K hG hl hret
  have hl : lv_has ls 8 [(0, .ref a_this), (1, .int x1), (2, .int x2), (3, .int x3), (4, .int x4)] := hl
  have hin_RX7 : ∀ w ∈ u_ws RX7 TX7 30, w ∈ wsX7_first := by decide +kernel
  unfold wp_X7_first at hw
  refine lv_aload_n K.1 K.2.1 dX7_first_0 rfl (lv_at hl 0 rfl) ?_
  refine lv_iload_n K.1 K.2.1 dX7_first_1 rfl (lv_at hl 1 rfl) ?_
  refine lv_iload_n K.1 K.2.1 dX7_first_2 rfl (lv_at hl 2 rfl) ?_
  refine lv_iload_n K.1 K.2.1 dX7_first_3 rfl (lv_at hl 3 rfl) ?_
  refine lv_iload K.1 K.2.1 dX7_first_4 (lv_at hl 4 rfl) ?_
  refine g_nv (w2 := (fun u => [(a_this, .inr (6, [.int c_this_columns, .int c_this_rows, .int c_this_aims, .ref a_this_lows, .ref a_this_highs, .ref a_this_rights, .ref a_this_terms, .ref a_this_costs, .ref a_this_froms, .ref a_this_tos, .int c_this_gone, .int c_this_plans, .ref a_this_planPoint, .ref a_this_planScore, .int c_this_front, .ref a_this_frontPlan, .ref a_this_frontTies, .int c_this_picks, .ref a_this_pick, .int c_this_hasClimbed, .ref a_this_end, .ref a_this_point, .ref a_this_score, .ref a_this_by, .ref a_this_four, .ref a_this_isNear, .ref a_this_number, .ref a_this_numbers, .ref a_this_place, .ref a_this_was])), (a_this_four, .inl (cI, 4, .inl u)), (a_this_frontPlan, .inl (cI, 2000, .inl c_this_frontPlan)), (a_this_planScore, .inl (cI, 8000, .inl c_this_planScore))])) (wr := [(a_this_frontPlan, .inl (cI, 2000, .inl c_this_frontPlan)), (a_this_planScore, .inl (cI, 8000, .inl c_this_planScore))]) K hG [0, 1] [2, 3] 4 rfl (g_runV (As := [.int x1, .int x2, .int x3, .int x4]) (rest := []) K hG hl [0, 1] rfl rfl 0 rfl rfl (k_X7_take l dC dI cI cJ cZ cG H.size a_this a_this_lows a_this_highs a_this_rights a_this_terms a_this_costs a_this_froms a_this_tos a_this_planPoint a_this_planScore a_this_frontPlan a_this_frontTies a_this_pick a_this_end a_this_point a_this_score a_this_by a_this_four a_this_isNear a_this_number a_this_numbers a_this_place a_this_was c_this_aims c_this_columns c_this_four c_this_front c_this_gone c_this_hasClimbed c_this_picks c_this_plans c_this_rows x1 x2 x3 x4 _ hw) (cwV 4 K.2.2.2.2.1 gX7_first_X7_take rfl rfl rfl (by decide +kernel) ⟨by decide, by decide⟩) rfl rfl (Nat.le_of_ble_eq_true rfl) ⟨Nat.zero_le _, Nat.zero_le _⟩ dX7_first_6) (fun _ => rfl) (fun _ => rfl) rfl (fun _ => rfl) (fun _ => rfl) (by decide) (by decide) (by decide) (fun u H locs hw hG => ?_)
  obtain ⟨c_this_four_6, rfl⟩ : ∃ z, z = u := ⟨_, rfl⟩
  have hG : HW (dC, dI) A s.heap [(a_this, .inr (6, [.int c_this_columns, .int c_this_rows, .int c_this_aims, .ref a_this_lows, .ref a_this_highs, .ref a_this_rights, .ref a_this_terms, .ref a_this_costs, .ref a_this_froms, .ref a_this_tos, .int c_this_gone, .int c_this_plans, .ref a_this_planPoint, .ref a_this_planScore, .int c_this_front, .ref a_this_frontPlan, .ref a_this_frontTies, .int c_this_picks, .ref a_this_pick, .int c_this_hasClimbed, .ref a_this_end, .ref a_this_point, .ref a_this_score, .ref a_this_by, .ref a_this_four, .ref a_this_isNear, .ref a_this_number, .ref a_this_numbers, .ref a_this_place, .ref a_this_was])), (a_this_four, .inl (cI, 4, .inl c_this_four_6)), (a_this_frontPlan, .inl (cI, 2000, .inl c_this_frontPlan)), (a_this_planScore, .inl (cI, 8000, .inl c_this_planScore))] H locs := hG
  refine lv_iconst (v := 0) K.1 K.2.1 dX7_first_9 (by decide) ?_
  refine lv_istore (lv' := [(5, .int (0 : Int32)), (0, .ref a_this), (1, .int x1), (2, .int x2), (3, .int x3), (4, .int x4)]) K.1 K.2.1 dX7_first_10 hl (by decide) rfl (fun ls hl => ?_)
  obtain ⟨kx_12, hkx_12, n_12, hw⟩ := Lx1_1_abs hw
  have hX_12 : ∀ (v5_12e : Int32) (H : Heap) (locs : List Loc) (ls : Array Slot), kx_12 v5_12e → HW (dC, dI) A s.heap [(a_this, .inr (6, [.int c_this_columns, .int c_this_rows, .int c_this_aims, .ref a_this_lows, .ref a_this_highs, .ref a_this_rights, .ref a_this_terms, .ref a_this_costs, .ref a_this_froms, .ref a_this_tos, .int c_this_gone, .int c_this_plans, .ref a_this_planPoint, .ref a_this_planScore, .int c_this_front, .ref a_this_frontPlan, .ref a_this_frontTies, .int c_this_picks, .ref a_this_pick, .int c_this_hasClimbed, .ref a_this_end, .ref a_this_point, .ref a_this_score, .ref a_this_by, .ref a_this_four, .ref a_this_isNear, .ref a_this_number, .ref a_this_numbers, .ref a_this_place, .ref a_this_was])), (a_this_four, .inl (cI, 4, .inl c_this_four_6)), (a_this_frontPlan, .inl (cI, 2000, .inl c_this_frontPlan)), (a_this_planScore, .inl (cI, 8000, .inl c_this_planScore))] H locs → lv_has ls 8 [(0, .ref a_this), (5, .int v5_12e)] → W p l e rm_X7_first s m args below meth c H locs 0 0 Q (F0 m 53 ls []) := by
    intro v5_12e H locs ls hw hG hl
    have hw := hkx_12 _ hw
    refine lv_aload_n K.1 K.2.1 dX7_first_53 rfl (lv_at hl 0 rfl) ?_
    refine g_get (v := .int c_this_front) K hG hin_RX7 0 rfl rfl 14 (by decide) (K.2.2.2.2.1 (.fieldLink RX7 98 "AimFrontsModel" "front" "I") (by decide +kernel)) rfl rfl dX7_first_54 ?_
    refine lv_if_ne (tgt := 63) K.1 K.2.1 dX7_first_57 (by decide) (fun q_57 => ?_) (fun q_57 => ?_)
    · have hw := hw.2 q_57
      refine lv_iconst (v := 0) K.1 K.2.1 dX7_first_63 (by decide) ?_
      refine lv_istore (lv' := [(6, .int (0 : Int32)), (0, .ref a_this), (5, .int v5_12e)]) K.1 K.2.1 dX7_first_64 hl (by decide) rfl (fun ls hl => ?_)
      refine lv_iconst (v := 1) K.1 K.2.1 dX7_first_66 (by decide) ?_
      refine lv_istore (lv' := [(7, .int (1 : Int32)), (6, .int (0 : Int32)), (0, .ref a_this), (5, .int v5_12e)]) K.1 K.2.1 dX7_first_67 hl (by decide) rfl (fun ls hl => ?_)
      obtain ⟨kx_69, hkx_69, n_69, hw⟩ := Lx1_2_abs hw
      have hX_69 : ∀ (v6_69e : Int32) (H : Heap) (locs : List Loc) (ls : Array Slot), kx_69 v6_69e → HW (dC, dI) A s.heap [(a_this, .inr (6, [.int c_this_columns, .int c_this_rows, .int c_this_aims, .ref a_this_lows, .ref a_this_highs, .ref a_this_rights, .ref a_this_terms, .ref a_this_costs, .ref a_this_froms, .ref a_this_tos, .int c_this_gone, .int c_this_plans, .ref a_this_planPoint, .ref a_this_planScore, .int c_this_front, .ref a_this_frontPlan, .ref a_this_frontTies, .int c_this_picks, .ref a_this_pick, .int c_this_hasClimbed, .ref a_this_end, .ref a_this_point, .ref a_this_score, .ref a_this_by, .ref a_this_four, .ref a_this_isNear, .ref a_this_number, .ref a_this_numbers, .ref a_this_place, .ref a_this_was])), (a_this_four, .inl (cI, 4, .inl c_this_four_6)), (a_this_frontPlan, .inl (cI, 2000, .inl c_this_frontPlan)), (a_this_planScore, .inl (cI, 8000, .inl c_this_planScore))] H locs → lv_has ls 8 [(6, .int v6_69e)] → W p l e rm_X7_first s m args below meth c H locs 0 0 Q (F0 m 106 ls []) := by
        intro v6_69e H locs ls hw hG hl
        have hw := hkx_69 _ hw
        refine lv_iload K.1 K.2.1 dX7_first_106 (lv_at hl 0 rfl) ?_
        exact hret v6_69e c_this_four_6 H locs _ ls dX7_first_108 rfl hw hG
      have hL_69 : ∀ (n : Nat), ∀ (v6_69 : Int32) (v7_69 : Int32) (H : Heap) (locs : List Loc) (ls : Array Slot), Lp2 (b_X7_first_69 c_this_front c_this_frontPlan c_this_planScore c_this_four_6 v5_12e kx_69) n v6_69 v7_69 → HW (dC, dI) A s.heap [(a_this, .inr (6, [.int c_this_columns, .int c_this_rows, .int c_this_aims, .ref a_this_lows, .ref a_this_highs, .ref a_this_rights, .ref a_this_terms, .ref a_this_costs, .ref a_this_froms, .ref a_this_tos, .int c_this_gone, .int c_this_plans, .ref a_this_planPoint, .ref a_this_planScore, .int c_this_front, .ref a_this_frontPlan, .ref a_this_frontTies, .int c_this_picks, .ref a_this_pick, .int c_this_hasClimbed, .ref a_this_end, .ref a_this_point, .ref a_this_score, .ref a_this_by, .ref a_this_four, .ref a_this_isNear, .ref a_this_number, .ref a_this_numbers, .ref a_this_place, .ref a_this_was])), (a_this_four, .inl (cI, 4, .inl c_this_four_6)), (a_this_frontPlan, .inl (cI, 2000, .inl c_this_frontPlan)), (a_this_planScore, .inl (cI, 8000, .inl c_this_planScore))] H locs → lv_has ls 8 [(0, .ref a_this), (5, .int v5_12e), (6, .int v6_69), (7, .int v7_69)] → W p l e rm_X7_first s m args below meth c H locs 0 0 Q (F0 m 69 ls []) := by
        intro n
        induction n with
        | zero => intro v6_69 v7_69 H locs ls hw; exact False.elim hw
        | succ n ih_69 =>
          intro v6_69 v7_69 H locs ls hw hG hl
          obtain ⟨w_69, hw_69, hw⟩ : ∃ w' : Int32 → Int32 → Prop, (∀ v6_69 v7_69, w' v6_69 v7_69 → Lp2 (b_X7_first_69 c_this_front c_this_frontPlan c_this_planScore c_this_four_6 v5_12e kx_69) n v6_69 v7_69) ∧ b_X7_first_69 c_this_front c_this_frontPlan c_this_planScore c_this_four_6 v5_12e kx_69 w' v6_69 v7_69 := ⟨_, fun _ _ h => h, hw⟩
          replace ih_69 : ∀ (v6_69 : Int32) (v7_69 : Int32) (H : Heap) (locs : List Loc) (ls : Array Slot), w_69 v6_69 v7_69 → HW (dC, dI) A s.heap [(a_this, .inr (6, [.int c_this_columns, .int c_this_rows, .int c_this_aims, .ref a_this_lows, .ref a_this_highs, .ref a_this_rights, .ref a_this_terms, .ref a_this_costs, .ref a_this_froms, .ref a_this_tos, .int c_this_gone, .int c_this_plans, .ref a_this_planPoint, .ref a_this_planScore, .int c_this_front, .ref a_this_frontPlan, .ref a_this_frontTies, .int c_this_picks, .ref a_this_pick, .int c_this_hasClimbed, .ref a_this_end, .ref a_this_point, .ref a_this_score, .ref a_this_by, .ref a_this_four, .ref a_this_isNear, .ref a_this_number, .ref a_this_numbers, .ref a_this_place, .ref a_this_was])), (a_this_four, .inl (cI, 4, .inl c_this_four_6)), (a_this_frontPlan, .inl (cI, 2000, .inl c_this_frontPlan)), (a_this_planScore, .inl (cI, 8000, .inl c_this_planScore))] H locs → lv_has ls 8 [(0, .ref a_this), (5, .int v5_12e), (6, .int v6_69), (7, .int v7_69)] → W p l e rm_X7_first s m args below meth c H locs 0 0 Q (F0 m 69 ls []) := fun v6_69 v7_69 H locs ls h => ih_69 v6_69 v7_69 H locs ls (hw_69 _ _ h)
          unfold b_X7_first_69 at hw
          refine lv_iload K.1 K.2.1 dX7_first_69 (lv_at hl 3 rfl) ?_
          refine lv_aload_n K.1 K.2.1 dX7_first_71 rfl (lv_at hl 0 rfl) ?_
          refine g_get (v := .int c_this_front) K hG hin_RX7 0 rfl rfl 14 (by decide) (K.2.2.2.2.1 (.fieldLink RX7 98 "AimFrontsModel" "front" "I") (by decide +kernel)) rfl rfl dX7_first_72 ?_
          refine lv_icmp_ge (tgt := 106) K.1 K.2.1 dX7_first_75 (by decide) (fun q_75 => ?_) (fun q_75 => ?_)
          · have hw := hw.1 q_75
            exact hX_69 v6_69 H locs ls hw hG (lv_sub hl [2] rfl)
          · have hw := hw.2 q_75
            refine lv_aload_n K.1 K.2.1 dX7_first_78 rfl (lv_at hl 0 rfl) ?_
            refine lv_iload K.1 K.2.1 dX7_first_79 (lv_at hl 3 rfl) ?_
            refine lv_iload K.1 K.2.1 dX7_first_81 (lv_at hl 2 rfl) ?_
            refine lv_iload K.1 K.2.1 dX7_first_83 (lv_at hl 1 rfl) ?_
            refine g_ri K hG [0, 1, 2, 3] rfl (g_runV (As := [.int v7_69, .int v6_69, .int v5_12e]) (rest := []) K hG hl [0, 1, 2, 3] rfl rfl 0 rfl rfl (k_X7_isFirst l dC dI cI cJ cZ cG H.size a_this a_this_lows a_this_highs a_this_rights a_this_terms a_this_costs a_this_froms a_this_tos a_this_planPoint a_this_planScore a_this_frontPlan a_this_frontTies a_this_pick a_this_end a_this_point a_this_score a_this_by a_this_four a_this_isNear a_this_number a_this_numbers a_this_place a_this_was c_this_aims c_this_columns c_this_four_6 c_this_front c_this_frontPlan c_this_gone c_this_hasClimbed c_this_picks c_this_planScore c_this_plans c_this_rows v7_69 v6_69 v5_12e _ hw) (cwV 3 K.2.2.2.2.1 gX7_first_X7_isFirst rfl rfl rfl (by decide +kernel) ⟨by decide, by decide⟩) rfl rfl (Nat.le_of_ble_eq_true rfl) ⟨Nat.zero_le _, Nat.zero_le _⟩ dX7_first_85) (fun r_85 H locs hw hG => ?_)
            refine lv_if_eq (tgt := 96) K.1 K.2.1 dX7_first_88 (by decide) (fun q_88 => ?_) (fun q_88 => ?_)
            · have hw := hw.1 q_88
              refine lv_iload K.1 K.2.1 dX7_first_96 (lv_at hl 2 rfl) ?_
              refine lv_istore (lv' := [(6, .int v6_69), (0, .ref a_this), (5, .int v5_12e), (7, .int v7_69)]) K.1 K.2.1 dX7_first_98 hl (by decide) rfl (fun ls hl => ?_)
              refine lv_iinc (v := (v7_69 + (1 : Int32))) (lv' := [(7, .int (v7_69 + (1 : Int32))), (6, .int v6_69), (0, .ref a_this), (5, .int v5_12e)]) K.1 K.2.1 dX7_first_100 hl (k := 3) rfl rfl (by decide) rfl (fun ls hl => ?_)
              refine lv_goto (tgt := 69) K.1 K.2.1 dX7_first_103 (by decide) ?_
              exact ih_69 v6_69 (v7_69 + (1 : Int32)) H locs ls hw hG (lv_sub hl [2, 3, 1, 0] rfl)
            · have hw := hw.2 q_88
              refine lv_iload K.1 K.2.1 dX7_first_91 (lv_at hl 3 rfl) ?_
              refine lv_goto (tgt := 98) K.1 K.2.1 dX7_first_93 (by decide) ?_
              refine lv_istore (lv' := [(6, .int v7_69), (0, .ref a_this), (5, .int v5_12e), (7, .int v7_69)]) K.1 K.2.1 dX7_first_98 hl (by decide) rfl (fun ls hl => ?_)
              refine lv_iinc (v := (v7_69 + (1 : Int32))) (lv' := [(7, .int (v7_69 + (1 : Int32))), (6, .int v7_69), (0, .ref a_this), (5, .int v5_12e)]) K.1 K.2.1 dX7_first_100 hl (k := 3) rfl rfl (by decide) rfl (fun ls hl => ?_)
              refine lv_goto (tgt := 69) K.1 K.2.1 dX7_first_103 (by decide) ?_
              exact ih_69 v7_69 (v7_69 + (1 : Int32)) H locs ls hw hG (lv_sub hl [2, 3, 1, 0] rfl)
      exact hL_69 n_69 (0 : Int32) (1 : Int32) H locs ls hw hG (lv_sub hl [2, 3, 1, 0] rfl)
    · have hw := hw.1 q_57
      refine lv_ldc (v := -1000002) K.1 K.2.1 K.2.2.2.1 (K.2.2.2.2.1 (.constant RX7 161 (-1000002)) (by decide +kernel)) dX7_first_60 ?_
      exact hret (-1000002 : Int32) c_this_four_6 H locs _ ls dX7_first_62 rfl hw hG
  have hL_12 : ∀ (n : Nat), ∀ (v5_12 : Int32) (H : Heap) (locs : List Loc) (ls : Array Slot), Lp1 (b_X7_first_12 c_this_aims post c_this_four_6 kx_12) n v5_12 → HW (dC, dI) A s.heap [(a_this, .inr (6, [.int c_this_columns, .int c_this_rows, .int c_this_aims, .ref a_this_lows, .ref a_this_highs, .ref a_this_rights, .ref a_this_terms, .ref a_this_costs, .ref a_this_froms, .ref a_this_tos, .int c_this_gone, .int c_this_plans, .ref a_this_planPoint, .ref a_this_planScore, .int c_this_front, .ref a_this_frontPlan, .ref a_this_frontTies, .int c_this_picks, .ref a_this_pick, .int c_this_hasClimbed, .ref a_this_end, .ref a_this_point, .ref a_this_score, .ref a_this_by, .ref a_this_four, .ref a_this_isNear, .ref a_this_number, .ref a_this_numbers, .ref a_this_place, .ref a_this_was])), (a_this_four, .inl (cI, 4, .inl c_this_four_6)), (a_this_frontPlan, .inl (cI, 2000, .inl c_this_frontPlan)), (a_this_planScore, .inl (cI, 8000, .inl c_this_planScore))] H locs → lv_has ls 8 [(0, .ref a_this), (5, .int v5_12)] → W p l e rm_X7_first s m args below meth c H locs 0 0 Q (F0 m 12 ls []) := by
    intro n
    induction n with
    | zero => intro v5_12 H locs ls hw; exact False.elim hw
    | succ n ih_12 =>
      intro v5_12 H locs ls hw hG hl
      obtain ⟨w_12, hw_12, hw⟩ : ∃ w' : Int32 → Prop, (∀ v5_12, w' v5_12 → Lp1 (b_X7_first_12 c_this_aims post c_this_four_6 kx_12) n v5_12) ∧ b_X7_first_12 c_this_aims post c_this_four_6 kx_12 w' v5_12 := ⟨_, fun _ h => h, hw⟩
      replace ih_12 : ∀ (v5_12 : Int32) (H : Heap) (locs : List Loc) (ls : Array Slot), w_12 v5_12 → HW (dC, dI) A s.heap [(a_this, .inr (6, [.int c_this_columns, .int c_this_rows, .int c_this_aims, .ref a_this_lows, .ref a_this_highs, .ref a_this_rights, .ref a_this_terms, .ref a_this_costs, .ref a_this_froms, .ref a_this_tos, .int c_this_gone, .int c_this_plans, .ref a_this_planPoint, .ref a_this_planScore, .int c_this_front, .ref a_this_frontPlan, .ref a_this_frontTies, .int c_this_picks, .ref a_this_pick, .int c_this_hasClimbed, .ref a_this_end, .ref a_this_point, .ref a_this_score, .ref a_this_by, .ref a_this_four, .ref a_this_isNear, .ref a_this_number, .ref a_this_numbers, .ref a_this_place, .ref a_this_was])), (a_this_four, .inl (cI, 4, .inl c_this_four_6)), (a_this_frontPlan, .inl (cI, 2000, .inl c_this_frontPlan)), (a_this_planScore, .inl (cI, 8000, .inl c_this_planScore))] H locs → lv_has ls 8 [(0, .ref a_this), (5, .int v5_12)] → W p l e rm_X7_first s m args below meth c H locs 0 0 Q (F0 m 12 ls []) := fun v5_12 H locs ls h => ih_12 v5_12 H locs ls (hw_12 _ h)
      unfold b_X7_first_12 at hw
      refine lv_iload K.1 K.2.1 dX7_first_12 (lv_at hl 1 rfl) ?_
      refine lv_iconst (v := 4) K.1 K.2.1 dX7_first_14 (by decide) ?_
      refine lv_icmp_ge (tgt := 53) K.1 K.2.1 dX7_first_15 (by decide) (fun q_15 => ?_) (fun q_15 => ?_)
      · have hw := hw.1 q_15
        exact hX_12 v5_12 H locs ls hw hG (lv_sub hl [0, 1] rfl)
      · have hw := hw.2 q_15
        refine lv_aload_n K.1 K.2.1 dX7_first_18 rfl (lv_at hl 0 rfl) ?_
        refine g_get (v := .ref a_this_four) K hG hin_RX7 0 rfl rfl 24 (by decide) (K.2.2.2.2.1 (.fieldLink RX7 59 "AimFrontsModel" "four" "[I") (by decide +kernel)) rfl rfl dX7_first_19 ?_
        refine lv_iload K.1 K.2.1 dX7_first_22 (lv_at hl 1 rfl) ?_
        obtain ⟨h_24, hw⟩ := hw
        refine g_iald K hG 1 rfl h_24 dX7_first_24 ?_
        refine lv_ldc (v := -1000000) K.1 K.2.1 K.2.2.2.1 (K.2.2.2.2.1 (.constant RX7 200 (-1000000)) (by decide +kernel)) dX7_first_25 ?_
        refine lv_icmp_eq (tgt := 53) K.1 K.2.1 dX7_first_27 (by decide) (fun q_27 => ?_) (fun q_27 => ?_)
        · have hw := hw.1 q_27
          exact hX_12 v5_12 H locs ls hw hG (lv_sub hl [0, 1] rfl)
        · have hw := hw.2 q_27
          refine lv_aload_n K.1 K.2.1 dX7_first_30 rfl (lv_at hl 0 rfl) ?_
          refine lv_aload_n K.1 K.2.1 dX7_first_31 rfl (lv_at hl 0 rfl) ?_
          refine g_get (v := .ref a_this_four) K hG hin_RX7 0 rfl rfl 24 (by decide) (K.2.2.2.2.1 (.fieldLink RX7 59 "AimFrontsModel" "four" "[I") (by decide +kernel)) rfl rfl dX7_first_32 ?_
          refine lv_iload K.1 K.2.1 dX7_first_35 (lv_at hl 1 rfl) ?_
          obtain ⟨h_37, hw⟩ := hw
          refine g_iald K hG 1 rfl h_37 dX7_first_37 ?_
          refine g_ri K hG [0] rfl (g_runV (As := [.int (c_this_four_6 (v5_12).toNatClampNeg)]) (rest := []) K hG hl [0] rfl rfl 0 rfl rfl (k_X7_isAim l dC dI cI cJ cZ cG H.size a_this a_this_lows a_this_highs a_this_rights a_this_terms a_this_costs a_this_froms a_this_tos a_this_planPoint a_this_planScore a_this_frontPlan a_this_frontTies a_this_pick a_this_end a_this_point a_this_score a_this_by a_this_four a_this_isNear a_this_number a_this_numbers a_this_place a_this_was c_this_aims c_this_columns c_this_front c_this_gone c_this_hasClimbed c_this_picks c_this_plans c_this_rows (c_this_four_6 (v5_12).toNatClampNeg) _ hw) (cwV 1 K.2.2.2.2.1 gX7_first_X7_isAim rfl rfl rfl (by decide +kernel) ⟨by decide, by decide⟩) rfl rfl (Nat.le_of_ble_eq_true rfl) ⟨Nat.zero_le _, Nat.zero_le _⟩ dX7_first_38) (fun r_38 H locs hw hG => ?_)
          refine lv_if_ne (tgt := 47) K.1 K.2.1 dX7_first_41 (by decide) (fun q_41 => ?_) (fun q_41 => ?_)
          · have hw := hw.2 q_41
            refine lv_iinc (v := (v5_12 + (1 : Int32))) (lv' := [(5, .int (v5_12 + (1 : Int32))), (0, .ref a_this)]) K.1 K.2.1 dX7_first_47 hl (k := 1) rfl rfl (by decide) rfl (fun ls hl => ?_)
            refine lv_goto (tgt := 12) K.1 K.2.1 dX7_first_50 (by decide) ?_
            exact ih_12 (v5_12 + (1 : Int32)) H locs ls hw hG (lv_sub hl [1, 0] rfl)
          · have hw := hw.1 q_41
            refine lv_ldc (v := -1000001) K.1 K.2.1 K.2.2.2.1 (K.2.2.2.2.1 (.constant RX7 112 (-1000001)) (by decide +kernel)) dX7_first_44 ?_
            exact hret (-1000001 : Int32) c_this_four_6 H locs _ ls dX7_first_46 rfl hw hG
  exact hL_12 n_12 (0 : Int32) H locs ls hw hG (lv_sub hl [1, 0] rfl)
abbrev rm_X7_under : Room := { frames := 2, cells := 0, slots := 0, locals := 44 }
set_option maxHeartbeats 4000000 in
set_option maxRecDepth 100000 in
theorem k_X7_under (l : Launch) (dC : Nat → ClassId) (dI : Nat → Nat → Nat) (cI cJ cZ cG : ClassId) (sz : Nat) (a_this a_this_lows a_this_highs a_this_rights a_this_terms a_this_costs a_this_froms a_this_tos a_this_planPoint a_this_planScore a_this_frontPlan a_this_frontTies a_this_pick a_this_end a_this_point a_this_score a_this_by a_this_four a_this_isNear a_this_number a_this_numbers a_this_place a_this_was : Nat) (c_this_aims : Int32) (c_this_columns : Int32) (c_this_four : Nat → Int32) (c_this_front : Int32) (c_this_frontPlan : Nat → Int32) (c_this_gone : Int32) (c_this_hasClimbed : Int32) (c_this_picks : Int32) (c_this_planScore : Nat → Int32) (c_this_plans : Int32) (c_this_rows : Int32) (x1 : Int32) (x2 : Int32) (x3 : Int32) (x4 : Int32) (post : Int32 → (Nat → Int32) → Prop) (hw : wp_X7_under c_this_aims c_this_four c_this_front c_this_frontPlan c_this_planScore x1 x2 x3 x4 post) : MetI l yX7_under wsX7_under rm_X7_under (dC, dI) cI cJ cZ cG [.ref a_this, .int x1, .int x2, .int x3, .int x4] sz [(a_this, .inr (6, [.int c_this_columns, .int c_this_rows, .int c_this_aims, .ref a_this_lows, .ref a_this_highs, .ref a_this_rights, .ref a_this_terms, .ref a_this_costs, .ref a_this_froms, .ref a_this_tos, .int c_this_gone, .int c_this_plans, .ref a_this_planPoint, .ref a_this_planScore, .int c_this_front, .ref a_this_frontPlan, .ref a_this_frontTies, .int c_this_picks, .ref a_this_pick, .int c_this_hasClimbed, .ref a_this_end, .ref a_this_point, .ref a_this_score, .ref a_this_by, .ref a_this_four, .ref a_this_isNear, .ref a_this_number, .ref a_this_numbers, .ref a_this_place, .ref a_this_was])), (a_this_four, .inl (cI, 4, .inl c_this_four)), (a_this_frontPlan, .inl (cI, 2000, .inl c_this_frontPlan)), (a_this_planScore, .inl (cI, 8000, .inl c_this_planScore))] (fun (r : Int32) (u : (Nat → Int32)) => post r u) (fun u => [(a_this, .inr (6, [.int c_this_columns, .int c_this_rows, .int c_this_aims, .ref a_this_lows, .ref a_this_highs, .ref a_this_rights, .ref a_this_terms, .ref a_this_costs, .ref a_this_froms, .ref a_this_tos, .int c_this_gone, .int c_this_plans, .ref a_this_planPoint, .ref a_this_planScore, .int c_this_front, .ref a_this_frontPlan, .ref a_this_frontTies, .int c_this_picks, .ref a_this_pick, .int c_this_hasClimbed, .ref a_this_end, .ref a_this_point, .ref a_this_score, .ref a_this_by, .ref a_this_four, .ref a_this_isNear, .ref a_this_number, .ref a_this_numbers, .ref a_this_place, .ref a_this_was])), (a_this_four, .inl (cI, 4, .inl u)), (a_this_frontPlan, .inl (cI, 2000, .inl c_this_frontPlan)), (a_this_planScore, .inl (cI, 8000, .inl c_this_planScore))]) := by
  refine met_i (ty := .int) (Or.inl rfl) (cc := cX7_under) (maxL := 8) (by decide) rfl (Nat.le_of_ble_eq_true rfl) ?_
  intro p e s m args below meth c A Q H locs ls K hG hl hret
  have hl : lv_has ls 8 [(0, .ref a_this), (1, .int x1), (2, .int x2), (3, .int x3), (4, .int x4)] := hl
  have hin_RX7 : ∀ w ∈ u_ws RX7 TX7 30, w ∈ wsX7_under := by decide +kernel
  unfold wp_X7_under at hw
  refine lv_aload_n K.1 K.2.1 dX7_under_0 rfl (lv_at hl 0 rfl) ?_
  refine lv_iload_n K.1 K.2.1 dX7_under_1 rfl (lv_at hl 1 rfl) ?_
  refine lv_iload_n K.1 K.2.1 dX7_under_2 rfl (lv_at hl 2 rfl) ?_
  refine lv_iload_n K.1 K.2.1 dX7_under_3 rfl (lv_at hl 3 rfl) ?_
  refine lv_iload K.1 K.2.1 dX7_under_4 (lv_at hl 4 rfl) ?_
  refine g_nv (w2 := (fun u => [(a_this, .inr (6, [.int c_this_columns, .int c_this_rows, .int c_this_aims, .ref a_this_lows, .ref a_this_highs, .ref a_this_rights, .ref a_this_terms, .ref a_this_costs, .ref a_this_froms, .ref a_this_tos, .int c_this_gone, .int c_this_plans, .ref a_this_planPoint, .ref a_this_planScore, .int c_this_front, .ref a_this_frontPlan, .ref a_this_frontTies, .int c_this_picks, .ref a_this_pick, .int c_this_hasClimbed, .ref a_this_end, .ref a_this_point, .ref a_this_score, .ref a_this_by, .ref a_this_four, .ref a_this_isNear, .ref a_this_number, .ref a_this_numbers, .ref a_this_place, .ref a_this_was])), (a_this_four, .inl (cI, 4, .inl u)), (a_this_frontPlan, .inl (cI, 2000, .inl c_this_frontPlan)), (a_this_planScore, .inl (cI, 8000, .inl c_this_planScore))])) (wr := [(a_this_frontPlan, .inl (cI, 2000, .inl c_this_frontPlan)), (a_this_planScore, .inl (cI, 8000, .inl c_this_planScore))]) K hG [0, 1] [2, 3] 4 rfl (g_runV (As := [.int x1, .int x2, .int x3, .int x4]) (rest := []) K hG hl [0, 1] rfl rfl 0 rfl rfl (k_X7_take l dC dI cI cJ cZ cG H.size a_this a_this_lows a_this_highs a_this_rights a_this_terms a_this_costs a_this_froms a_this_tos a_this_planPoint a_this_planScore a_this_frontPlan a_this_frontTies a_this_pick a_this_end a_this_point a_this_score a_this_by a_this_four a_this_isNear a_this_number a_this_numbers a_this_place a_this_was c_this_aims c_this_columns c_this_four c_this_front c_this_gone c_this_hasClimbed c_this_picks c_this_plans c_this_rows x1 x2 x3 x4 _ hw) (cwV 4 K.2.2.2.2.1 gX7_under_X7_take rfl rfl rfl (by decide +kernel) ⟨by decide, by decide⟩) rfl rfl (Nat.le_of_ble_eq_true rfl) ⟨Nat.zero_le _, Nat.zero_le _⟩ dX7_under_6) (fun _ => rfl) (fun _ => rfl) rfl (fun _ => rfl) (fun _ => rfl) (by decide) (by decide) (by decide) (fun u H locs hw hG => ?_)
  obtain ⟨c_this_four_6, rfl⟩ : ∃ z, z = u := ⟨_, rfl⟩
  have hG : HW (dC, dI) A s.heap [(a_this, .inr (6, [.int c_this_columns, .int c_this_rows, .int c_this_aims, .ref a_this_lows, .ref a_this_highs, .ref a_this_rights, .ref a_this_terms, .ref a_this_costs, .ref a_this_froms, .ref a_this_tos, .int c_this_gone, .int c_this_plans, .ref a_this_planPoint, .ref a_this_planScore, .int c_this_front, .ref a_this_frontPlan, .ref a_this_frontTies, .int c_this_picks, .ref a_this_pick, .int c_this_hasClimbed, .ref a_this_end, .ref a_this_point, .ref a_this_score, .ref a_this_by, .ref a_this_four, .ref a_this_isNear, .ref a_this_number, .ref a_this_numbers, .ref a_this_place, .ref a_this_was])), (a_this_four, .inl (cI, 4, .inl c_this_four_6)), (a_this_frontPlan, .inl (cI, 2000, .inl c_this_frontPlan)), (a_this_planScore, .inl (cI, 8000, .inl c_this_planScore))] H locs := hG
  refine lv_iconst (v := 0) K.1 K.2.1 dX7_under_9 (by decide) ?_
  refine lv_istore (lv' := [(5, .int (0 : Int32)), (0, .ref a_this), (1, .int x1), (2, .int x2), (3, .int x3), (4, .int x4)]) K.1 K.2.1 dX7_under_10 hl (by decide) rfl (fun ls hl => ?_)
  obtain ⟨kx_12, hkx_12, n_12, hw⟩ := Lx0_1_abs hw
  have hX_12 : ∀  (H : Heap) (locs : List Loc) (ls : Array Slot), kx_12 → HW (dC, dI) A s.heap [(a_this, .inr (6, [.int c_this_columns, .int c_this_rows, .int c_this_aims, .ref a_this_lows, .ref a_this_highs, .ref a_this_rights, .ref a_this_terms, .ref a_this_costs, .ref a_this_froms, .ref a_this_tos, .int c_this_gone, .int c_this_plans, .ref a_this_planPoint, .ref a_this_planScore, .int c_this_front, .ref a_this_frontPlan, .ref a_this_frontTies, .int c_this_picks, .ref a_this_pick, .int c_this_hasClimbed, .ref a_this_end, .ref a_this_point, .ref a_this_score, .ref a_this_by, .ref a_this_four, .ref a_this_isNear, .ref a_this_number, .ref a_this_numbers, .ref a_this_place, .ref a_this_was])), (a_this_four, .inl (cI, 4, .inl c_this_four_6)), (a_this_frontPlan, .inl (cI, 2000, .inl c_this_frontPlan)), (a_this_planScore, .inl (cI, 8000, .inl c_this_planScore))] H locs → lv_has ls 8 [] → W p l e rm_X7_under s m args below meth c H locs 0 0 Q (F0 m 86 ls []) := by
    intro H locs ls hw hG hl
    have hw := hkx_12 hw
    refine lv_ldc (v := -1000000) K.1 K.2.1 K.2.2.2.1 (K.2.2.2.2.1 (.constant RX7 200 (-1000000)) (by decide +kernel)) dX7_under_86 ?_
    exact hret (-1000000 : Int32) c_this_four_6 H locs _ ls dX7_under_88 rfl hw hG
  have hL_12 : ∀ (n : Nat), ∀ (v5_12 : Int32) (H : Heap) (locs : List Loc) (ls : Array Slot), Lp1 (b_X7_under_12 c_this_aims c_this_front c_this_frontPlan c_this_planScore post c_this_four_6 kx_12) n v5_12 → HW (dC, dI) A s.heap [(a_this, .inr (6, [.int c_this_columns, .int c_this_rows, .int c_this_aims, .ref a_this_lows, .ref a_this_highs, .ref a_this_rights, .ref a_this_terms, .ref a_this_costs, .ref a_this_froms, .ref a_this_tos, .int c_this_gone, .int c_this_plans, .ref a_this_planPoint, .ref a_this_planScore, .int c_this_front, .ref a_this_frontPlan, .ref a_this_frontTies, .int c_this_picks, .ref a_this_pick, .int c_this_hasClimbed, .ref a_this_end, .ref a_this_point, .ref a_this_score, .ref a_this_by, .ref a_this_four, .ref a_this_isNear, .ref a_this_number, .ref a_this_numbers, .ref a_this_place, .ref a_this_was])), (a_this_four, .inl (cI, 4, .inl c_this_four_6)), (a_this_frontPlan, .inl (cI, 2000, .inl c_this_frontPlan)), (a_this_planScore, .inl (cI, 8000, .inl c_this_planScore))] H locs → lv_has ls 8 [(0, .ref a_this), (5, .int v5_12)] → W p l e rm_X7_under s m args below meth c H locs 0 0 Q (F0 m 12 ls []) := by
    intro n
    induction n with
    | zero => intro v5_12 H locs ls hw; exact False.elim hw
    | succ n ih_12 =>
      intro v5_12 H locs ls hw hG hl
      obtain ⟨w_12, hw_12, hw⟩ : ∃ w' : Int32 → Prop, (∀ v5_12, w' v5_12 → Lp1 (b_X7_under_12 c_this_aims c_this_front c_this_frontPlan c_this_planScore post c_this_four_6 kx_12) n v5_12) ∧ b_X7_under_12 c_this_aims c_this_front c_this_frontPlan c_this_planScore post c_this_four_6 kx_12 w' v5_12 := ⟨_, fun _ h => h, hw⟩
      replace ih_12 : ∀ (v5_12 : Int32) (H : Heap) (locs : List Loc) (ls : Array Slot), w_12 v5_12 → HW (dC, dI) A s.heap [(a_this, .inr (6, [.int c_this_columns, .int c_this_rows, .int c_this_aims, .ref a_this_lows, .ref a_this_highs, .ref a_this_rights, .ref a_this_terms, .ref a_this_costs, .ref a_this_froms, .ref a_this_tos, .int c_this_gone, .int c_this_plans, .ref a_this_planPoint, .ref a_this_planScore, .int c_this_front, .ref a_this_frontPlan, .ref a_this_frontTies, .int c_this_picks, .ref a_this_pick, .int c_this_hasClimbed, .ref a_this_end, .ref a_this_point, .ref a_this_score, .ref a_this_by, .ref a_this_four, .ref a_this_isNear, .ref a_this_number, .ref a_this_numbers, .ref a_this_place, .ref a_this_was])), (a_this_four, .inl (cI, 4, .inl c_this_four_6)), (a_this_frontPlan, .inl (cI, 2000, .inl c_this_frontPlan)), (a_this_planScore, .inl (cI, 8000, .inl c_this_planScore))] H locs → lv_has ls 8 [(0, .ref a_this), (5, .int v5_12)] → W p l e rm_X7_under s m args below meth c H locs 0 0 Q (F0 m 12 ls []) := fun v5_12 H locs ls h => ih_12 v5_12 H locs ls (hw_12 _ h)
      unfold b_X7_under_12 at hw
      refine lv_iload K.1 K.2.1 dX7_under_12 (lv_at hl 1 rfl) ?_
      refine lv_aload_n K.1 K.2.1 dX7_under_14 rfl (lv_at hl 0 rfl) ?_
      refine g_get (v := .int c_this_front) K hG hin_RX7 0 rfl rfl 14 (by decide) (K.2.2.2.2.1 (.fieldLink RX7 98 "AimFrontsModel" "front" "I") (by decide +kernel)) rfl rfl dX7_under_15 ?_
      refine lv_icmp_ge (tgt := 86) K.1 K.2.1 dX7_under_18 (by decide) (fun q_18 => ?_) (fun q_18 => ?_)
      · have hw := hw.1 q_18
        exact hX_12 H locs ls hw hG (lv_sub hl [] rfl)
      · have hw := hw.2 q_18
        refine lv_iconst (v := 1) K.1 K.2.1 dX7_under_21 (by decide) ?_
        refine lv_istore (lv' := [(6, .int (1 : Int32)), (0, .ref a_this), (5, .int v5_12)]) K.1 K.2.1 dX7_under_22 hl (by decide) rfl (fun ls hl => ?_)
        refine lv_iconst (v := 0) K.1 K.2.1 dX7_under_24 (by decide) ?_
        refine lv_istore (lv' := [(7, .int (0 : Int32)), (6, .int (1 : Int32)), (0, .ref a_this), (5, .int v5_12)]) K.1 K.2.1 dX7_under_25 hl (by decide) rfl (fun ls hl => ?_)
        obtain ⟨kx_27, hkx_27, n_27, hw⟩ := Lx1_2_abs hw
        have hX_27 : ∀ (v6_27e : Int32) (H : Heap) (locs : List Loc) (ls : Array Slot), kx_27 v6_27e → HW (dC, dI) A s.heap [(a_this, .inr (6, [.int c_this_columns, .int c_this_rows, .int c_this_aims, .ref a_this_lows, .ref a_this_highs, .ref a_this_rights, .ref a_this_terms, .ref a_this_costs, .ref a_this_froms, .ref a_this_tos, .int c_this_gone, .int c_this_plans, .ref a_this_planPoint, .ref a_this_planScore, .int c_this_front, .ref a_this_frontPlan, .ref a_this_frontTies, .int c_this_picks, .ref a_this_pick, .int c_this_hasClimbed, .ref a_this_end, .ref a_this_point, .ref a_this_score, .ref a_this_by, .ref a_this_four, .ref a_this_isNear, .ref a_this_number, .ref a_this_numbers, .ref a_this_place, .ref a_this_was])), (a_this_four, .inl (cI, 4, .inl c_this_four_6)), (a_this_frontPlan, .inl (cI, 2000, .inl c_this_frontPlan)), (a_this_planScore, .inl (cI, 8000, .inl c_this_planScore))] H locs → lv_has ls 8 [(0, .ref a_this), (5, .int v5_12), (6, .int v6_27e)] → W p l e rm_X7_under s m args below meth c H locs 0 0 Q (F0 m 72 ls []) := by
          intro v6_27e H locs ls hw hG hl
          have hw := hkx_27 _ hw
          refine lv_iload K.1 K.2.1 dX7_under_72 (lv_at hl 2 rfl) ?_
          refine lv_if_eq (tgt := 80) K.1 K.2.1 dX7_under_74 (by decide) (fun q_74 => ?_) (fun q_74 => ?_)
          · have hw := hw.1 q_74
            refine lv_iinc (v := (v5_12 + (1 : Int32))) (lv' := [(5, .int (v5_12 + (1 : Int32))), (0, .ref a_this), (6, .int v6_27e)]) K.1 K.2.1 dX7_under_80 hl (k := 1) rfl rfl (by decide) rfl (fun ls hl => ?_)
            refine lv_goto (tgt := 12) K.1 K.2.1 dX7_under_83 (by decide) ?_
            exact ih_12 (v5_12 + (1 : Int32)) H locs ls hw hG (lv_sub hl [1, 0] rfl)
          · have hw := hw.2 q_74
            refine lv_iload K.1 K.2.1 dX7_under_77 (lv_at hl 1 rfl) ?_
            exact hret v5_12 c_this_four_6 H locs _ ls dX7_under_79 rfl hw hG
        have hL_27 : ∀ (n : Nat), ∀ (v6_27 : Int32) (v7_27 : Int32) (H : Heap) (locs : List Loc) (ls : Array Slot), Lp2 (b_X7_under_27 c_this_aims c_this_frontPlan c_this_planScore c_this_four_6 v5_12 kx_27) n v6_27 v7_27 → HW (dC, dI) A s.heap [(a_this, .inr (6, [.int c_this_columns, .int c_this_rows, .int c_this_aims, .ref a_this_lows, .ref a_this_highs, .ref a_this_rights, .ref a_this_terms, .ref a_this_costs, .ref a_this_froms, .ref a_this_tos, .int c_this_gone, .int c_this_plans, .ref a_this_planPoint, .ref a_this_planScore, .int c_this_front, .ref a_this_frontPlan, .ref a_this_frontTies, .int c_this_picks, .ref a_this_pick, .int c_this_hasClimbed, .ref a_this_end, .ref a_this_point, .ref a_this_score, .ref a_this_by, .ref a_this_four, .ref a_this_isNear, .ref a_this_number, .ref a_this_numbers, .ref a_this_place, .ref a_this_was])), (a_this_four, .inl (cI, 4, .inl c_this_four_6)), (a_this_frontPlan, .inl (cI, 2000, .inl c_this_frontPlan)), (a_this_planScore, .inl (cI, 8000, .inl c_this_planScore))] H locs → lv_has ls 8 [(0, .ref a_this), (5, .int v5_12), (6, .int v6_27), (7, .int v7_27)] → W p l e rm_X7_under s m args below meth c H locs 0 0 Q (F0 m 27 ls []) := by
          intro n
          induction n with
          | zero => intro v6_27 v7_27 H locs ls hw; exact False.elim hw
          | succ n ih_27 =>
            intro v6_27 v7_27 H locs ls hw hG hl
            obtain ⟨w_27, hw_27, hw⟩ : ∃ w' : Int32 → Int32 → Prop, (∀ v6_27 v7_27, w' v6_27 v7_27 → Lp2 (b_X7_under_27 c_this_aims c_this_frontPlan c_this_planScore c_this_four_6 v5_12 kx_27) n v6_27 v7_27) ∧ b_X7_under_27 c_this_aims c_this_frontPlan c_this_planScore c_this_four_6 v5_12 kx_27 w' v6_27 v7_27 := ⟨_, fun _ _ h => h, hw⟩
            replace ih_27 : ∀ (v6_27 : Int32) (v7_27 : Int32) (H : Heap) (locs : List Loc) (ls : Array Slot), w_27 v6_27 v7_27 → HW (dC, dI) A s.heap [(a_this, .inr (6, [.int c_this_columns, .int c_this_rows, .int c_this_aims, .ref a_this_lows, .ref a_this_highs, .ref a_this_rights, .ref a_this_terms, .ref a_this_costs, .ref a_this_froms, .ref a_this_tos, .int c_this_gone, .int c_this_plans, .ref a_this_planPoint, .ref a_this_planScore, .int c_this_front, .ref a_this_frontPlan, .ref a_this_frontTies, .int c_this_picks, .ref a_this_pick, .int c_this_hasClimbed, .ref a_this_end, .ref a_this_point, .ref a_this_score, .ref a_this_by, .ref a_this_four, .ref a_this_isNear, .ref a_this_number, .ref a_this_numbers, .ref a_this_place, .ref a_this_was])), (a_this_four, .inl (cI, 4, .inl c_this_four_6)), (a_this_frontPlan, .inl (cI, 2000, .inl c_this_frontPlan)), (a_this_planScore, .inl (cI, 8000, .inl c_this_planScore))] H locs → lv_has ls 8 [(0, .ref a_this), (5, .int v5_12), (6, .int v6_27), (7, .int v7_27)] → W p l e rm_X7_under s m args below meth c H locs 0 0 Q (F0 m 27 ls []) := fun v6_27 v7_27 H locs ls h => ih_27 v6_27 v7_27 H locs ls (hw_27 _ _ h)
            unfold b_X7_under_27 at hw
            refine lv_iload K.1 K.2.1 dX7_under_27 (lv_at hl 3 rfl) ?_
            refine lv_aload_n K.1 K.2.1 dX7_under_29 rfl (lv_at hl 0 rfl) ?_
            refine g_get (v := .int c_this_aims) K hG hin_RX7 0 rfl rfl 2 (by decide) (K.2.2.2.2.1 (.fieldLink RX7 89 "AimFrontsModel" "aims" "I") (by decide +kernel)) rfl rfl dX7_under_30 ?_
            refine lv_icmp_ge (tgt := 72) K.1 K.2.1 dX7_under_33 (by decide) (fun q_33 => ?_) (fun q_33 => ?_)
            · have hw := hw.1 q_33
              exact hX_27 v6_27 H locs ls hw hG (lv_sub hl [0, 1, 2] rfl)
            · have hw := hw.2 q_33
              refine lv_iload K.1 K.2.1 dX7_under_36 (lv_at hl 2 rfl) ?_
              refine lv_if_eq (tgt := 63) K.1 K.2.1 dX7_under_38 (by decide) (fun q_38 => ?_) (fun q_38 => ?_)
              · have hw := hw.1 q_38
                refine lv_iconst (v := 0) K.1 K.2.1 dX7_under_63 (by decide) ?_
                refine lv_istore (lv' := [(6, .int (0 : Int32)), (0, .ref a_this), (5, .int v5_12), (7, .int v7_27)]) K.1 K.2.1 dX7_under_64 hl (by decide) rfl (fun ls hl => ?_)
                refine lv_iinc (v := (v7_27 + (1 : Int32))) (lv' := [(7, .int (v7_27 + (1 : Int32))), (6, .int (0 : Int32)), (0, .ref a_this), (5, .int v5_12)]) K.1 K.2.1 dX7_under_66 hl (k := 3) rfl rfl (by decide) rfl (fun ls hl => ?_)
                refine lv_goto (tgt := 27) K.1 K.2.1 dX7_under_69 (by decide) ?_
                exact ih_27 (0 : Int32) (v7_27 + (1 : Int32)) H locs ls hw hG (lv_sub hl [2, 3, 1, 0] rfl)
              · have hw := hw.2 q_38
                refine lv_aload_n K.1 K.2.1 dX7_under_41 rfl (lv_at hl 0 rfl) ?_
                refine lv_iload K.1 K.2.1 dX7_under_42 (lv_at hl 1 rfl) ?_
                refine lv_iload K.1 K.2.1 dX7_under_44 (lv_at hl 3 rfl) ?_
                refine g_ri K hG [0, 2, 3] rfl (g_runV (As := [.int v5_12, .int v7_27]) (rest := []) K hG hl [0, 2, 3] rfl rfl 0 rfl rfl (k_X7_at l dC dI cI cJ cZ cG H.size a_this a_this_lows a_this_highs a_this_rights a_this_terms a_this_costs a_this_froms a_this_tos a_this_planPoint a_this_planScore a_this_frontPlan a_this_frontTies a_this_pick a_this_end a_this_point a_this_score a_this_by a_this_four a_this_isNear a_this_number a_this_numbers a_this_place a_this_was c_this_aims c_this_columns c_this_front c_this_frontPlan c_this_gone c_this_hasClimbed c_this_picks c_this_planScore c_this_plans c_this_rows v5_12 v7_27 _ hw) (cwV 2 K.2.2.2.2.1 gX7_under_X7_at rfl rfl rfl (by decide +kernel) ⟨by decide, by decide⟩) rfl rfl (Nat.le_of_ble_eq_true rfl) ⟨Nat.zero_le _, Nat.zero_le _⟩ dX7_under_46) (fun r_46 H locs hw hG => ?_)
                refine lv_aload_n K.1 K.2.1 dX7_under_49 rfl (lv_at hl 0 rfl) ?_
                refine g_get (v := .ref a_this_four) K hG hin_RX7 0 rfl rfl 24 (by decide) (K.2.2.2.2.1 (.fieldLink RX7 59 "AimFrontsModel" "four" "[I") (by decide +kernel)) rfl rfl dX7_under_50 ?_
                refine lv_iload K.1 K.2.1 dX7_under_53 (lv_at hl 3 rfl) ?_
                obtain ⟨h_55, hw⟩ := hw
                refine g_iald K hG 1 rfl h_55 dX7_under_55 ?_
                refine lv_icmp_gt (tgt := 63) K.1 K.2.1 dX7_under_56 (by decide) (fun q_56 => ?_) (fun q_56 => ?_)
                · have hw := hw.1 q_56
                  refine lv_iconst (v := 0) K.1 K.2.1 dX7_under_63 (by decide) ?_
                  refine lv_istore (lv' := [(6, .int (0 : Int32)), (0, .ref a_this), (5, .int v5_12), (7, .int v7_27)]) K.1 K.2.1 dX7_under_64 hl (by decide) rfl (fun ls hl => ?_)
                  refine lv_iinc (v := (v7_27 + (1 : Int32))) (lv' := [(7, .int (v7_27 + (1 : Int32))), (6, .int (0 : Int32)), (0, .ref a_this), (5, .int v5_12)]) K.1 K.2.1 dX7_under_66 hl (k := 3) rfl rfl (by decide) rfl (fun ls hl => ?_)
                  refine lv_goto (tgt := 27) K.1 K.2.1 dX7_under_69 (by decide) ?_
                  exact ih_27 (0 : Int32) (v7_27 + (1 : Int32)) H locs ls hw hG (lv_sub hl [2, 3, 1, 0] rfl)
                · have hw := hw.2 q_56
                  refine lv_iconst (v := 1) K.1 K.2.1 dX7_under_59 (by decide) ?_
                  refine lv_goto (tgt := 64) K.1 K.2.1 dX7_under_60 (by decide) ?_
                  refine lv_istore (lv' := [(6, .int (1 : Int32)), (0, .ref a_this), (5, .int v5_12), (7, .int v7_27)]) K.1 K.2.1 dX7_under_64 hl (by decide) rfl (fun ls hl => ?_)
                  refine lv_iinc (v := (v7_27 + (1 : Int32))) (lv' := [(7, .int (v7_27 + (1 : Int32))), (6, .int (1 : Int32)), (0, .ref a_this), (5, .int v5_12)]) K.1 K.2.1 dX7_under_66 hl (k := 3) rfl rfl (by decide) rfl (fun ls hl => ?_)
                  refine lv_goto (tgt := 27) K.1 K.2.1 dX7_under_69 (by decide) ?_
                  exact ih_27 (1 : Int32) (v7_27 + (1 : Int32)) H locs ls hw hG (lv_sub hl [2, 3, 1, 0] rfl)
        exact hL_27 n_27 (1 : Int32) (0 : Int32) H locs ls hw hG (lv_sub hl [2, 3, 1, 0] rfl)
  exact hL_12 n_12 (0 : Int32) H locs ls hw hG (lv_sub hl [1, 0] rfl)

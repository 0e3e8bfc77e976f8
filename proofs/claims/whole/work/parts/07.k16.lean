abbrev rm_X7_someLess : Room := { frames := 2, cells := 0, slots := 0, locals := 44 }
set_option maxHeartbeats 4000000 in
set_option maxRecDepth 100000 in
theorem k_X7_someLess (l : Launch) (dC : Nat → ClassId) (dI : Nat → Nat → Nat) (cI cJ cZ cG : ClassId) (sz : Nat) (a_this a_this_lows a_this_highs a_this_rights a_this_terms a_this_costs a_this_froms a_this_tos a_this_planPoint a_this_planScore a_this_frontPlan a_this_frontTies a_this_pick a_this_end a_this_point a_this_score a_this_by a_this_four a_this_isNear a_this_number a_this_numbers a_this_place a_this_was : Nat) (c_this_aims : Int32) (c_this_columns : Int32) (c_this_front : Int32) (c_this_frontPlan : Nat → Int32) (c_this_gone : Int32) (c_this_hasClimbed : Int32) (c_this_number : Nat → Int32) (c_this_picks : Int32) (c_this_place : Nat → Int32) (c_this_planScore : Nat → Int32) (c_this_plans : Int32) (c_this_rows : Int32) (x1 : Int32) (post : Int32 → Prop) (hw : wp_X7_someLess c_this_aims c_this_front c_this_frontPlan c_this_number c_this_place c_this_planScore x1 post) : MetI l yX7_someLess wsX7_someLess rm_X7_someLess (dC, dI) cI cJ cZ cG [.ref a_this, .int x1] sz [(a_this, .inr (6, [.int c_this_columns, .int c_this_rows, .int c_this_aims, .ref a_this_lows, .ref a_this_highs, .ref a_this_rights, .ref a_this_terms, .ref a_this_costs, .ref a_this_froms, .ref a_this_tos, .int c_this_gone, .int c_this_plans, .ref a_this_planPoint, .ref a_this_planScore, .int c_this_front, .ref a_this_frontPlan, .ref a_this_frontTies, .int c_this_picks, .ref a_this_pick, .int c_this_hasClimbed, .ref a_this_end, .ref a_this_point, .ref a_this_score, .ref a_this_by, .ref a_this_four, .ref a_this_isNear, .ref a_this_number, .ref a_this_numbers, .ref a_this_place, .ref a_this_was])), (a_this_frontPlan, .inl (cI, 2000, .inl c_this_frontPlan)), (a_this_number, .inl (cI, 52, .inl c_this_number)), (a_this_place, .inl (cI, 4, .inl c_this_place)), (a_this_planScore, .inl (cI, 8000, .inl c_this_planScore))] (fun (r : Int32) (u : Unit) => post r) (fun u => [(a_this, .inr (6, [.int c_this_columns, .int c_this_rows, .int c_this_aims, .ref a_this_lows, .ref a_this_highs, .ref a_this_rights, .ref a_this_terms, .ref a_this_costs, .ref a_this_froms, .ref a_this_tos, .int c_this_gone, .int c_this_plans, .ref a_this_planPoint, .ref a_this_planScore, .int c_this_front, .ref a_this_frontPlan, .ref a_this_frontTies, .int c_this_picks, .ref a_this_pick, .int c_this_hasClimbed, .ref a_this_end, .ref a_this_point, .ref a_this_score, .ref a_this_by, .ref a_this_four, .ref a_this_isNear, .ref a_this_number, .ref a_this_numbers, .ref a_this_place, .ref a_this_was])), (a_this_frontPlan, .inl (cI, 2000, .inl c_this_frontPlan)), (a_this_number, .inl (cI, 52, .inl c_this_number)), (a_this_place, .inl (cI, 4, .inl c_this_place)), (a_this_planScore, .inl (cI, 8000, .inl c_this_planScore))]) := by
  refine met_i (ty := .boolean) (Or.inr rfl) (cc := cX7_someLess) (maxL := 5) (by decide) rfl (Nat.le_of_ble_eq_true rfl) ?_
  intro p e s m args below meth c A Q H locs ls K hG hl hret
  have hl : lv_has ls 5 [(0, .ref a_this), (1, .int x1)] := hl
  have hin_RX7 : ∀ w ∈ u_ws RX7 TX7 30, w ∈ wsX7_someLess := by decide +kernel
  unfold wp_X7_someLess at hw
  refine lv_iconst (v := 0) K.1 K.2.1 dX7_someLess_0 (by decide) ?_
  refine lv_istore_n (lv' := [(2, .int (0 : Int32)), (0, .ref a_this), (1, .int x1)]) K.1 K.2.1 dX7_someLess_1 rfl hl (by decide) rfl (fun ls hl => ?_)
  refine lv_iconst (v := 0) K.1 K.2.1 dX7_someLess_2 (by decide) ?_
  refine lv_istore_n (lv' := [(3, .int (0 : Int32)), (2, .int (0 : Int32)), (0, .ref a_this), (1, .int x1)]) K.1 K.2.1 dX7_someLess_3 rfl hl (by decide) rfl (fun ls hl => ?_)
  obtain ⟨kx_4, hkx_4, n_4, hw⟩ := Lx1_2_abs hw
  have hX_4 : ∀ (v2_4e : Int32) (H : Heap) (locs : List Loc) (ls : Array Slot), kx_4 v2_4e → HW (dC, dI) A s.heap [(a_this, .inr (6, [.int c_this_columns, .int c_this_rows, .int c_this_aims, .ref a_this_lows, .ref a_this_highs, .ref a_this_rights, .ref a_this_terms, .ref a_this_costs, .ref a_this_froms, .ref a_this_tos, .int c_this_gone, .int c_this_plans, .ref a_this_planPoint, .ref a_this_planScore, .int c_this_front, .ref a_this_frontPlan, .ref a_this_frontTies, .int c_this_picks, .ref a_this_pick, .int c_this_hasClimbed, .ref a_this_end, .ref a_this_point, .ref a_this_score, .ref a_this_by, .ref a_this_four, .ref a_this_isNear, .ref a_this_number, .ref a_this_numbers, .ref a_this_place, .ref a_this_was])), (a_this_frontPlan, .inl (cI, 2000, .inl c_this_frontPlan)), (a_this_number, .inl (cI, 52, .inl c_this_number)), (a_this_place, .inl (cI, 4, .inl c_this_place)), (a_this_planScore, .inl (cI, 8000, .inl c_this_planScore))] H locs → lv_has ls 5 [(2, .int v2_4e)] → W p l e rm_X7_someLess s m args below meth c H locs 0 0 Q (F0 m 92 ls []) := by
    intro v2_4e H locs ls hw hG hl
    have hw := hkx_4 _ hw
    refine lv_iload_n K.1 K.2.1 dX7_someLess_92 rfl (lv_at hl 0 rfl) ?_
    exact hret v2_4e () H locs _ ls dX7_someLess_93 hw.1 hw.2 hG
  have hL_4 : ∀ (n : Nat), ∀ (v2_4 : Int32) (v3_4 : Int32) (H : Heap) (locs : List Loc) (ls : Array Slot), Lp2 (b_X7_someLess_4 c_this_aims c_this_front c_this_frontPlan c_this_number c_this_place c_this_planScore x1 kx_4) n v2_4 v3_4 → HW (dC, dI) A s.heap [(a_this, .inr (6, [.int c_this_columns, .int c_this_rows, .int c_this_aims, .ref a_this_lows, .ref a_this_highs, .ref a_this_rights, .ref a_this_terms, .ref a_this_costs, .ref a_this_froms, .ref a_this_tos, .int c_this_gone, .int c_this_plans, .ref a_this_planPoint, .ref a_this_planScore, .int c_this_front, .ref a_this_frontPlan, .ref a_this_frontTies, .int c_this_picks, .ref a_this_pick, .int c_this_hasClimbed, .ref a_this_end, .ref a_this_point, .ref a_this_score, .ref a_this_by, .ref a_this_four, .ref a_this_isNear, .ref a_this_number, .ref a_this_numbers, .ref a_this_place, .ref a_this_was])), (a_this_frontPlan, .inl (cI, 2000, .inl c_this_frontPlan)), (a_this_number, .inl (cI, 52, .inl c_this_number)), (a_this_place, .inl (cI, 4, .inl c_this_place)), (a_this_planScore, .inl (cI, 8000, .inl c_this_planScore))] H locs → lv_has ls 5 [(0, .ref a_this), (1, .int x1), (2, .int v2_4), (3, .int v3_4)] → W p l e rm_X7_someLess s m args below meth c H locs 0 0 Q (F0 m 4 ls []) := by
    intro n
    induction n with
    | zero => intro v2_4 v3_4 H locs ls hw; exact False.elim hw
    | succ n ih_4 =>
      intro v2_4 v3_4 H locs ls hw hG hl
      obtain ⟨w_4, hw_4, hw⟩ : ∃ w' : Int32 → Int32 → Prop, (∀ v2_4 v3_4, w' v2_4 v3_4 → Lp2 (b_X7_someLess_4 c_this_aims c_this_front c_this_frontPlan c_this_number c_this_place c_this_planScore x1 kx_4) n v2_4 v3_4) ∧ b_X7_someLess_4 c_this_aims c_this_front c_this_frontPlan c_this_number c_this_place c_this_planScore x1 kx_4 w' v2_4 v3_4 := ⟨_, fun _ _ h => h, hw⟩
      replace ih_4 : ∀ (v2_4 : Int32) (v3_4 : Int32) (H : Heap) (locs : List Loc) (ls : Array Slot), w_4 v2_4 v3_4 → HW (dC, dI) A s.heap [(a_this, .inr (6, [.int c_this_columns, .int c_this_rows, .int c_this_aims, .ref a_this_lows, .ref a_this_highs, .ref a_this_rights, .ref a_this_terms, .ref a_this_costs, .ref a_this_froms, .ref a_this_tos, .int c_this_gone, .int c_this_plans, .ref a_this_planPoint, .ref a_this_planScore, .int c_this_front, .ref a_this_frontPlan, .ref a_this_frontTies, .int c_this_picks, .ref a_this_pick, .int c_this_hasClimbed, .ref a_this_end, .ref a_this_point, .ref a_this_score, .ref a_this_by, .ref a_this_four, .ref a_this_isNear, .ref a_this_number, .ref a_this_numbers, .ref a_this_place, .ref a_this_was])), (a_this_frontPlan, .inl (cI, 2000, .inl c_this_frontPlan)), (a_this_number, .inl (cI, 52, .inl c_this_number)), (a_this_place, .inl (cI, 4, .inl c_this_place)), (a_this_planScore, .inl (cI, 8000, .inl c_this_planScore))] H locs → lv_has ls 5 [(0, .ref a_this), (1, .int x1), (2, .int v2_4), (3, .int v3_4)] → W p l e rm_X7_someLess s m args below meth c H locs 0 0 Q (F0 m 4 ls []) := fun v2_4 v3_4 H locs ls h => ih_4 v2_4 v3_4 H locs ls (hw_4 _ _ h)
      unfold b_X7_someLess_4 at hw
      refine lv_iload_n K.1 K.2.1 dX7_someLess_4 rfl (lv_at hl 3 rfl) ?_
      refine lv_aload_n K.1 K.2.1 dX7_someLess_5 rfl (lv_at hl 0 rfl) ?_
      refine g_get (v := .int c_this_front) K hG hin_RX7 0 rfl rfl 14 (by decide) (K.2.2.2.2.1 (.fieldLink RX7 98 "AimFrontsModel" "front" "I") (by decide +kernel)) rfl rfl dX7_someLess_6 ?_
      refine lv_icmp_ge (tgt := 92) K.1 K.2.1 dX7_someLess_9 (by decide) (fun q_9 => ?_) (fun q_9 => ?_)
      · have hw := hw.1 q_9
        exact hX_4 v2_4 H locs ls hw hG (lv_sub hl [2] rfl)
      · have hw := hw.2 q_9
        refine lv_iload_n K.1 K.2.1 dX7_someLess_12 rfl (lv_at hl 2 rfl) ?_
        refine lv_if_ne (tgt := 92) K.1 K.2.1 dX7_someLess_13 (by decide) (fun q_13 => ?_) (fun q_13 => ?_)
        · have hw := hw.2 q_13
          exact hX_4 v2_4 H locs ls hw hG (lv_sub hl [2] rfl)
        · have hw := hw.1 q_13
          refine lv_iconst (v := 1) K.1 K.2.1 dX7_someLess_16 (by decide) ?_
          refine lv_istore_n (lv' := [(2, .int (1 : Int32)), (0, .ref a_this), (1, .int x1), (3, .int v3_4)]) K.1 K.2.1 dX7_someLess_17 rfl hl (by decide) rfl (fun ls hl => ?_)
          refine lv_iconst (v := 0) K.1 K.2.1 dX7_someLess_18 (by decide) ?_
          refine lv_istore (lv' := [(4, .int (0 : Int32)), (2, .int (1 : Int32)), (0, .ref a_this), (1, .int x1), (3, .int v3_4)]) K.1 K.2.1 dX7_someLess_19 hl (by decide) rfl (fun ls hl => ?_)
          obtain ⟨kx_21, hkx_21, n_21, hw⟩ := Lx1_2_abs hw
          have hX_21 : ∀ (v2_21e : Int32) (H : Heap) (locs : List Loc) (ls : Array Slot), kx_21 v2_21e → HW (dC, dI) A s.heap [(a_this, .inr (6, [.int c_this_columns, .int c_this_rows, .int c_this_aims, .ref a_this_lows, .ref a_this_highs, .ref a_this_rights, .ref a_this_terms, .ref a_this_costs, .ref a_this_froms, .ref a_this_tos, .int c_this_gone, .int c_this_plans, .ref a_this_planPoint, .ref a_this_planScore, .int c_this_front, .ref a_this_frontPlan, .ref a_this_frontTies, .int c_this_picks, .ref a_this_pick, .int c_this_hasClimbed, .ref a_this_end, .ref a_this_point, .ref a_this_score, .ref a_this_by, .ref a_this_four, .ref a_this_isNear, .ref a_this_number, .ref a_this_numbers, .ref a_this_place, .ref a_this_was])), (a_this_frontPlan, .inl (cI, 2000, .inl c_this_frontPlan)), (a_this_number, .inl (cI, 52, .inl c_this_number)), (a_this_place, .inl (cI, 4, .inl c_this_place)), (a_this_planScore, .inl (cI, 8000, .inl c_this_planScore))] H locs → lv_has ls 5 [(0, .ref a_this), (1, .int x1), (2, .int v2_21e), (3, .int v3_4)] → W p l e rm_X7_someLess s m args below meth c H locs 0 0 Q (F0 m 86 ls []) := by
            intro v2_21e H locs ls hw hG hl
            have hw := hkx_21 _ hw
            refine lv_iinc (v := (v3_4 + (1 : Int32))) (lv' := [(3, .int (v3_4 + (1 : Int32))), (0, .ref a_this), (1, .int x1), (2, .int v2_21e)]) K.1 K.2.1 dX7_someLess_86 hl (k := 3) rfl rfl (by decide) rfl (fun ls hl => ?_)
            refine lv_goto (tgt := 4) K.1 K.2.1 dX7_someLess_89 (by decide) ?_
            exact ih_4 v2_21e (v3_4 + (1 : Int32)) H locs ls hw hG (lv_sub hl [1, 2, 3, 0] rfl)
          have hL_21 : ∀ (n : Nat), ∀ (v2_21 : Int32) (v4_21 : Int32) (H : Heap) (locs : List Loc) (ls : Array Slot), Lp2 (b_X7_someLess_21 c_this_aims c_this_frontPlan c_this_number c_this_place c_this_planScore x1 v3_4 kx_21) n v2_21 v4_21 → HW (dC, dI) A s.heap [(a_this, .inr (6, [.int c_this_columns, .int c_this_rows, .int c_this_aims, .ref a_this_lows, .ref a_this_highs, .ref a_this_rights, .ref a_this_terms, .ref a_this_costs, .ref a_this_froms, .ref a_this_tos, .int c_this_gone, .int c_this_plans, .ref a_this_planPoint, .ref a_this_planScore, .int c_this_front, .ref a_this_frontPlan, .ref a_this_frontTies, .int c_this_picks, .ref a_this_pick, .int c_this_hasClimbed, .ref a_this_end, .ref a_this_point, .ref a_this_score, .ref a_this_by, .ref a_this_four, .ref a_this_isNear, .ref a_this_number, .ref a_this_numbers, .ref a_this_place, .ref a_this_was])), (a_this_frontPlan, .inl (cI, 2000, .inl c_this_frontPlan)), (a_this_number, .inl (cI, 52, .inl c_this_number)), (a_this_place, .inl (cI, 4, .inl c_this_place)), (a_this_planScore, .inl (cI, 8000, .inl c_this_planScore))] H locs → lv_has ls 5 [(0, .ref a_this), (1, .int x1), (2, .int v2_21), (3, .int v3_4), (4, .int v4_21)] → W p l e rm_X7_someLess s m args below meth c H locs 0 0 Q (F0 m 21 ls []) := by
            intro n
            induction n with
            | zero => intro v2_21 v4_21 H locs ls hw; exact False.elim hw
            | succ n ih_21 =>
              intro v2_21 v4_21 H locs ls hw hG hl
              obtain ⟨w_21, hw_21, hw⟩ : ∃ w' : Int32 → Int32 → Prop, (∀ v2_21 v4_21, w' v2_21 v4_21 → Lp2 (b_X7_someLess_21 c_this_aims c_this_frontPlan c_this_number c_this_place c_this_planScore x1 v3_4 kx_21) n v2_21 v4_21) ∧ b_X7_someLess_21 c_this_aims c_this_frontPlan c_this_number c_this_place c_this_planScore x1 v3_4 kx_21 w' v2_21 v4_21 := ⟨_, fun _ _ h => h, hw⟩
              replace ih_21 : ∀ (v2_21 : Int32) (v4_21 : Int32) (H : Heap) (locs : List Loc) (ls : Array Slot), w_21 v2_21 v4_21 → HW (dC, dI) A s.heap [(a_this, .inr (6, [.int c_this_columns, .int c_this_rows, .int c_this_aims, .ref a_this_lows, .ref a_this_highs, .ref a_this_rights, .ref a_this_terms, .ref a_this_costs, .ref a_this_froms, .ref a_this_tos, .int c_this_gone, .int c_this_plans, .ref a_this_planPoint, .ref a_this_planScore, .int c_this_front, .ref a_this_frontPlan, .ref a_this_frontTies, .int c_this_picks, .ref a_this_pick, .int c_this_hasClimbed, .ref a_this_end, .ref a_this_point, .ref a_this_score, .ref a_this_by, .ref a_this_four, .ref a_this_isNear, .ref a_this_number, .ref a_this_numbers, .ref a_this_place, .ref a_this_was])), (a_this_frontPlan, .inl (cI, 2000, .inl c_this_frontPlan)), (a_this_number, .inl (cI, 52, .inl c_this_number)), (a_this_place, .inl (cI, 4, .inl c_this_place)), (a_this_planScore, .inl (cI, 8000, .inl c_this_planScore))] H locs → lv_has ls 5 [(0, .ref a_this), (1, .int x1), (2, .int v2_21), (3, .int v3_4), (4, .int v4_21)] → W p l e rm_X7_someLess s m args below meth c H locs 0 0 Q (F0 m 21 ls []) := fun v2_21 v4_21 H locs ls h => ih_21 v2_21 v4_21 H locs ls (hw_21 _ _ h)
              unfold b_X7_someLess_21 at hw
              refine lv_iload K.1 K.2.1 dX7_someLess_21 (lv_at hl 4 rfl) ?_
              refine lv_aload_n K.1 K.2.1 dX7_someLess_23 rfl (lv_at hl 0 rfl) ?_
              refine g_get (v := .int c_this_aims) K hG hin_RX7 0 rfl rfl 2 (by decide) (K.2.2.2.2.1 (.fieldLink RX7 89 "AimFrontsModel" "aims" "I") (by decide +kernel)) rfl rfl dX7_someLess_24 ?_
              refine lv_icmp_ge (tgt := 86) K.1 K.2.1 dX7_someLess_27 (by decide) (fun q_27 => ?_) (fun q_27 => ?_)
              · have hw := hw.1 q_27
                exact hX_21 v2_21 H locs ls hw hG (lv_sub hl [0, 1, 2, 3] rfl)
              · have hw := hw.2 q_27
                refine lv_iload_n K.1 K.2.1 dX7_someLess_30 rfl (lv_at hl 2 rfl) ?_
                refine lv_if_eq (tgt := 78) K.1 K.2.1 dX7_someLess_31 (by decide) (fun q_31 => ?_) (fun q_31 => ?_)
                · have hw := hw.1 q_31
                  refine lv_iconst (v := 0) K.1 K.2.1 dX7_someLess_78 (by decide) ?_
                  refine lv_istore_n (lv' := [(2, .int (0 : Int32)), (0, .ref a_this), (1, .int x1), (3, .int v3_4), (4, .int v4_21)]) K.1 K.2.1 dX7_someLess_79 rfl hl (by decide) rfl (fun ls hl => ?_)
                  refine lv_iinc (v := (v4_21 + (1 : Int32))) (lv' := [(4, .int (v4_21 + (1 : Int32))), (2, .int (0 : Int32)), (0, .ref a_this), (1, .int x1), (3, .int v3_4)]) K.1 K.2.1 dX7_someLess_80 hl (k := 4) rfl rfl (by decide) rfl (fun ls hl => ?_)
                  refine lv_goto (tgt := 21) K.1 K.2.1 dX7_someLess_83 (by decide) ?_
                  exact ih_21 (0 : Int32) (v4_21 + (1 : Int32)) H locs ls hw hG (lv_sub hl [2, 3, 1, 4, 0] rfl)
                · have hw := hw.2 q_31
                  refine lv_aload_n K.1 K.2.1 dX7_someLess_34 rfl (lv_at hl 0 rfl) ?_
                  refine lv_iload_n K.1 K.2.1 dX7_someLess_35 rfl (lv_at hl 3 rfl) ?_
                  refine lv_iload K.1 K.2.1 dX7_someLess_36 (lv_at hl 4 rfl) ?_
                  refine g_ri K hG [0, 1, 4] rfl (g_runV (As := [.int v3_4, .int v4_21]) (rest := []) K hG hl [0, 1, 4] rfl rfl 0 rfl rfl (k_X7_at l dC dI cI cJ cZ cG H.size a_this a_this_lows a_this_highs a_this_rights a_this_terms a_this_costs a_this_froms a_this_tos a_this_planPoint a_this_planScore a_this_frontPlan a_this_frontTies a_this_pick a_this_end a_this_point a_this_score a_this_by a_this_four a_this_isNear a_this_number a_this_numbers a_this_place a_this_was c_this_aims c_this_columns c_this_front c_this_frontPlan c_this_gone c_this_hasClimbed c_this_picks c_this_planScore c_this_plans c_this_rows v3_4 v4_21 _ hw) (cwV 2 K.2.2.2.2.1 gX7_someLess_X7_at rfl rfl rfl (by decide +kernel) ⟨by decide, by decide⟩) rfl rfl (Nat.le_of_ble_eq_true rfl) ⟨Nat.zero_le _, Nat.zero_le _⟩ dX7_someLess_38) (fun r_38 H locs hw hG => ?_)
                  refine lv_aload_n K.1 K.2.1 dX7_someLess_41 rfl (lv_at hl 0 rfl) ?_
                  refine g_get (v := .ref a_this_number) K hG hin_RX7 0 rfl rfl 26 (by decide) (K.2.2.2.2.1 (.fieldLink RX7 66 "AimFrontsModel" "number" "[I") (by decide +kernel)) rfl rfl dX7_someLess_42 ?_
                  refine lv_bipush (v := 13) K.1 K.2.1 dX7_someLess_45 (by decide) ?_
                  refine lv_iload K.1 K.2.1 dX7_someLess_47 (lv_at hl 4 rfl) ?_
                  refine lv_imul K.1 K.2.1 dX7_someLess_49 ?_
                  refine lv_aload_n K.1 K.2.1 dX7_someLess_50 rfl (lv_at hl 0 rfl) ?_
                  refine g_get (v := .ref a_this_place) K hG hin_RX7 0 rfl rfl 28 (by decide) (K.2.2.2.2.1 (.fieldLink RX7 72 "AimFrontsModel" "place" "[I") (by decide +kernel)) rfl rfl dX7_someLess_51 ?_
                  refine lv_iload K.1 K.2.1 dX7_someLess_54 (lv_at hl 4 rfl) ?_
                  obtain ⟨h_56, hw⟩ := hw
                  refine g_iald K hG 3 rfl h_56 dX7_someLess_56 ?_
                  refine lv_iadd K.1 K.2.1 dX7_someLess_57 ?_
                  refine lv_iload K.1 K.2.1 dX7_someLess_58 (lv_at hl 4 rfl) ?_
                  refine lv_iload_n K.1 K.2.1 dX7_someLess_60 rfl (lv_at hl 1 rfl) ?_
                  obtain ⟨k_j69, hk_j69, hw⟩ := jn1_abs hw
                  have hJ_j69 : ∀ (s3_j69 : Int32) (H : Heap) (locs : List Loc) (ls : Array Slot), k_j69 s3_j69 → HW (dC, dI) A s.heap [(a_this, .inr (6, [.int c_this_columns, .int c_this_rows, .int c_this_aims, .ref a_this_lows, .ref a_this_highs, .ref a_this_rights, .ref a_this_terms, .ref a_this_costs, .ref a_this_froms, .ref a_this_tos, .int c_this_gone, .int c_this_plans, .ref a_this_planPoint, .ref a_this_planScore, .int c_this_front, .ref a_this_frontPlan, .ref a_this_frontTies, .int c_this_picks, .ref a_this_pick, .int c_this_hasClimbed, .ref a_this_end, .ref a_this_point, .ref a_this_score, .ref a_this_by, .ref a_this_four, .ref a_this_isNear, .ref a_this_number, .ref a_this_numbers, .ref a_this_place, .ref a_this_was])), (a_this_frontPlan, .inl (cI, 2000, .inl c_this_frontPlan)), (a_this_number, .inl (cI, 52, .inl c_this_number)), (a_this_place, .inl (cI, 4, .inl c_this_place)), (a_this_planScore, .inl (cI, 8000, .inl c_this_planScore))] H locs → lv_has ls 5 [(0, .ref a_this), (1, .int x1), (3, .int v3_4), (4, .int v4_21)] → W p l e rm_X7_someLess s m args below meth c H locs 0 0 Q (F0 m 69 ls [.int s3_j69, .int (((13 : Int32) * v4_21) + (c_this_place (v4_21).toNatClampNeg)), .ref a_this_number, .int r_38]) := by
                    intro s3_j69 H locs ls hw hG hl
                    have hw := hk_j69 _ hw
                    refine lv_iadd K.1 K.2.1 dX7_someLess_69 ?_
                    obtain ⟨h_70, hw⟩ := hw
                    refine g_iald K hG 2 rfl h_70 dX7_someLess_70 ?_
                    refine lv_icmp_ge (tgt := 78) K.1 K.2.1 dX7_someLess_71 (by decide) (fun q_71 => ?_) (fun q_71 => ?_)
                    · have hw := hw.1 q_71
                      refine lv_iconst (v := 0) K.1 K.2.1 dX7_someLess_78 (by decide) ?_
                      refine lv_istore_n (lv' := [(2, .int (0 : Int32)), (0, .ref a_this), (1, .int x1), (3, .int v3_4), (4, .int v4_21)]) K.1 K.2.1 dX7_someLess_79 rfl hl (by decide) rfl (fun ls hl => ?_)
                      refine lv_iinc (v := (v4_21 + (1 : Int32))) (lv' := [(4, .int (v4_21 + (1 : Int32))), (2, .int (0 : Int32)), (0, .ref a_this), (1, .int x1), (3, .int v3_4)]) K.1 K.2.1 dX7_someLess_80 hl (k := 4) rfl rfl (by decide) rfl (fun ls hl => ?_)
                      refine lv_goto (tgt := 21) K.1 K.2.1 dX7_someLess_83 (by decide) ?_
                      exact ih_21 (0 : Int32) (v4_21 + (1 : Int32)) H locs ls hw hG (lv_sub hl [2, 3, 1, 4, 0] rfl)
                    · have hw := hw.2 q_71
                      refine lv_iconst (v := 1) K.1 K.2.1 dX7_someLess_74 (by decide) ?_
                      refine lv_goto (tgt := 79) K.1 K.2.1 dX7_someLess_75 (by decide) ?_
                      refine lv_istore_n (lv' := [(2, .int (1 : Int32)), (0, .ref a_this), (1, .int x1), (3, .int v3_4), (4, .int v4_21)]) K.1 K.2.1 dX7_someLess_79 rfl hl (by decide) rfl (fun ls hl => ?_)
                      refine lv_iinc (v := (v4_21 + (1 : Int32))) (lv' := [(4, .int (v4_21 + (1 : Int32))), (2, .int (1 : Int32)), (0, .ref a_this), (1, .int x1), (3, .int v3_4)]) K.1 K.2.1 dX7_someLess_80 hl (k := 4) rfl rfl (by decide) rfl (fun ls hl => ?_)
                      refine lv_goto (tgt := 21) K.1 K.2.1 dX7_someLess_83 (by decide) ?_
                      exact ih_21 (1 : Int32) (v4_21 + (1 : Int32)) H locs ls hw hG (lv_sub hl [2, 3, 1, 4, 0] rfl)
                  refine lv_icmp_ne (tgt := 68) K.1 K.2.1 dX7_someLess_61 (by decide) (fun q_61 => ?_) (fun q_61 => ?_)
                  · have hw := hw.2 q_61
                    refine lv_iconst (v := 0) K.1 K.2.1 dX7_someLess_68 (by decide) ?_
                    exact hJ_j69 (0 : Int32) H locs ls hw hG (lv_sub hl [0, 1, 3, 4] rfl)
                  · have hw := hw.1 q_61
                    refine lv_iconst (v := 1) K.1 K.2.1 dX7_someLess_64 (by decide) ?_
                    refine lv_goto (tgt := 69) K.1 K.2.1 dX7_someLess_65 (by decide) ?_
                    exact hJ_j69 (1 : Int32) H locs ls hw hG (lv_sub hl [0, 1, 3, 4] rfl)
          exact hL_21 n_21 (1 : Int32) (0 : Int32) H locs ls hw hG (lv_sub hl [2, 3, 1, 4, 0] rfl)
  exact hL_4 n_4 (0 : Int32) (0 : Int32) H locs ls hw hG (lv_sub hl [2, 3, 1, 0] rfl)
abbrev rm_X7_isBox : Room := { frames := 3, cells := 0, slots := 0, locals := 68 }
set_option maxHeartbeats 4000000 in
set_option maxRecDepth 100000 in
theorem k_X7_isBox (l : Launch) (dC : Nat → ClassId) (dI : Nat → Nat → Nat) (cI cJ cZ cG : ClassId) (sz : Nat) (a_this a_this_lows a_this_highs a_this_rights a_this_terms a_this_costs a_this_froms a_this_tos a_this_planPoint a_this_planScore a_this_frontPlan a_this_frontTies a_this_pick a_this_end a_this_point a_this_score a_this_by a_this_four a_this_isNear a_this_number a_this_numbers a_this_place a_this_was : Nat) (c_this_aims : Int32) (c_this_columns : Int32) (c_this_front : Int32) (c_this_frontPlan : Nat → Int32) (c_this_gone : Int32) (c_this_hasClimbed : Int32) (c_this_number : Nat → Int32) (c_this_numbers : Nat → Int32) (c_this_picks : Int32) (c_this_place : Nat → Int32) (c_this_planScore : Nat → Int32) (c_this_plans : Int32) (c_this_rows : Int32) (post : Int32 → Prop) (hw : wp_X7_isBox c_this_aims c_this_front c_this_frontPlan c_this_number c_this_numbers c_this_place c_this_planScore post) : MetI l yX7_isBox wsX7_isBox rm_X7_isBox (dC, dI) cI cJ cZ cG [.ref a_this] sz [(a_this, .inr (6, [.int c_this_columns, .int c_this_rows, .int c_this_aims, .ref a_this_lows, .ref a_this_highs, .ref a_this_rights, .ref a_this_terms, .ref a_this_costs, .ref a_this_froms, .ref a_this_tos, .int c_this_gone, .int c_this_plans, .ref a_this_planPoint, .ref a_this_planScore, .int c_this_front, .ref a_this_frontPlan, .ref a_this_frontTies, .int c_this_picks, .ref a_this_pick, .int c_this_hasClimbed, .ref a_this_end, .ref a_this_point, .ref a_this_score, .ref a_this_by, .ref a_this_four, .ref a_this_isNear, .ref a_this_number, .ref a_this_numbers, .ref a_this_place, .ref a_this_was])), (a_this_frontPlan, .inl (cI, 2000, .inl c_this_frontPlan)), (a_this_number, .inl (cI, 52, .inl c_this_number)), (a_this_numbers, .inl (cI, 4, .inl c_this_numbers)), (a_this_place, .inl (cI, 4, .inl c_this_place)), (a_this_planScore, .inl (cI, 8000, .inl c_this_planScore))] (fun (r : Int32) (u : Unit) => post r) (fun u => [(a_this, .inr (6, [.int c_this_columns, .int c_this_rows, .int c_this_aims, .ref a_this_lows, .ref a_this_highs, .ref a_this_rights, .ref a_this_terms, .ref a_this_costs, .ref a_this_froms, .ref a_this_tos, .int c_this_gone, .int c_this_plans, .ref a_this_planPoint, .ref a_this_planScore, .int c_this_front, .ref a_this_frontPlan, .ref a_this_frontTies, .int c_this_picks, .ref a_this_pick, .int c_this_hasClimbed, .ref a_this_end, .ref a_this_point, .ref a_this_score, .ref a_this_by, .ref a_this_four, .ref a_this_isNear, .ref a_this_number, .ref a_this_numbers, .ref a_this_place, .ref a_this_was])), (a_this_frontPlan, .inl (cI, 2000, .inl c_this_frontPlan)), (a_this_number, .inl (cI, 52, .inl c_this_number)), (a_this_numbers, .inl (cI, 4, .inl c_this_numbers)), (a_this_place, .inl (cI, 4, .inl c_this_place)), (a_this_planScore, .inl (cI, 8000, .inl c_this_planScore))]) := by
  refine met_i (ty := .boolean) (Or.inr rfl) (cc := cX7_isBox) (maxL := 3) (by decide) rfl (Nat.le_of_ble_eq_true rfl) ?_
  intro p e s m args below meth c A Q H locs ls K hG hl hret
  have hl : lv_has ls 3 [(0, .ref a_this)] := hl
  have hin_RX7 : ∀ w ∈ u_ws RX7 TX7 30, w ∈ wsX7_isBox := by decide +kernel
  unfold wp_X7_isBox at hw
  refine lv_aload_n K.1 K.2.1 dX7_isBox_0 rfl (lv_at hl 0 rfl) ?_
  refine lv_ldc (v := -1000000) K.1 K.2.1 K.2.2.2.1 (K.2.2.2.2.1 (.constant RX7 200 (-1000000)) (by decide +kernel)) dX7_isBox_1 ?_
  refine g_ri K hG [0, 1, 2, 4, 5] rfl (g_runV (As := [.int (-1000000 : Int32)]) (rest := []) K hG hl [0, 1, 2, 4, 5] rfl rfl 0 rfl rfl (k_X7_someLess l dC dI cI cJ cZ cG H.size a_this a_this_lows a_this_highs a_this_rights a_this_terms a_this_costs a_this_froms a_this_tos a_this_planPoint a_this_planScore a_this_frontPlan a_this_frontTies a_this_pick a_this_end a_this_point a_this_score a_this_by a_this_four a_this_isNear a_this_number a_this_numbers a_this_place a_this_was c_this_aims c_this_columns c_this_front c_this_frontPlan c_this_gone c_this_hasClimbed c_this_number c_this_picks c_this_place c_this_planScore c_this_plans c_this_rows (-1000000 : Int32) _ hw) (cwV 1 K.2.2.2.2.1 gX7_isBox_X7_someLess rfl rfl rfl (by decide +kernel) ⟨by decide, by decide⟩) rfl rfl (Nat.le_of_ble_eq_true rfl) ⟨Nat.zero_le _, Nat.zero_le _⟩ dX7_isBox_3) (fun r_3 H locs hw hG => ?_)
  refine lv_if_ne (tgt := 13) K.1 K.2.1 dX7_isBox_6 (by decide) (fun q_6 => ?_) (fun q_6 => ?_)
  · have hw := hw.2 q_6
    refine lv_iconst (v := 0) K.1 K.2.1 dX7_isBox_13 (by decide) ?_
    refine lv_istore_n (lv' := [(1, .int (0 : Int32)), (0, .ref a_this)]) K.1 K.2.1 dX7_isBox_14 rfl hl (by decide) rfl (fun ls hl => ?_)
    refine lv_iconst (v := 0) K.1 K.2.1 dX7_isBox_15 (by decide) ?_
    refine lv_istore_n (lv' := [(2, .int (0 : Int32)), (1, .int (0 : Int32)), (0, .ref a_this)]) K.1 K.2.1 dX7_isBox_16 rfl hl (by decide) rfl (fun ls hl => ?_)
    obtain ⟨kx_17, hkx_17, n_17, hw⟩ := Lx1_2_abs hw
    have hX_17 : ∀ (v1_17e : Int32) (H : Heap) (locs : List Loc) (ls : Array Slot), kx_17 v1_17e → HW (dC, dI) A s.heap [(a_this, .inr (6, [.int c_this_columns, .int c_this_rows, .int c_this_aims, .ref a_this_lows, .ref a_this_highs, .ref a_this_rights, .ref a_this_terms, .ref a_this_costs, .ref a_this_froms, .ref a_this_tos, .int c_this_gone, .int c_this_plans, .ref a_this_planPoint, .ref a_this_planScore, .int c_this_front, .ref a_this_frontPlan, .ref a_this_frontTies, .int c_this_picks, .ref a_this_pick, .int c_this_hasClimbed, .ref a_this_end, .ref a_this_point, .ref a_this_score, .ref a_this_by, .ref a_this_four, .ref a_this_isNear, .ref a_this_number, .ref a_this_numbers, .ref a_this_place, .ref a_this_was])), (a_this_frontPlan, .inl (cI, 2000, .inl c_this_frontPlan)), (a_this_number, .inl (cI, 52, .inl c_this_number)), (a_this_numbers, .inl (cI, 4, .inl c_this_numbers)), (a_this_place, .inl (cI, 4, .inl c_this_place)), (a_this_planScore, .inl (cI, 8000, .inl c_this_planScore))] H locs → lv_has ls 3 [(1, .int v1_17e)] → W p l e rm_X7_isBox s m args below meth c H locs 0 0 Q (F0 m 66 ls []) := by
      intro v1_17e H locs ls hw hG hl
      have hw := hkx_17 _ hw
      refine lv_iload_n K.1 K.2.1 dX7_isBox_66 rfl (lv_at hl 0 rfl) ?_
      exact hret v1_17e () H locs _ ls dX7_isBox_67 hw.1 hw.2 hG
    have hL_17 : ∀ (n : Nat), ∀ (v1_17 : Int32) (v2_17 : Int32) (H : Heap) (locs : List Loc) (ls : Array Slot), Lp2 (b_X7_isBox_17 c_this_aims c_this_front c_this_frontPlan c_this_number c_this_numbers c_this_place c_this_planScore kx_17) n v1_17 v2_17 → HW (dC, dI) A s.heap [(a_this, .inr (6, [.int c_this_columns, .int c_this_rows, .int c_this_aims, .ref a_this_lows, .ref a_this_highs, .ref a_this_rights, .ref a_this_terms, .ref a_this_costs, .ref a_this_froms, .ref a_this_tos, .int c_this_gone, .int c_this_plans, .ref a_this_planPoint, .ref a_this_planScore, .int c_this_front, .ref a_this_frontPlan, .ref a_this_frontTies, .int c_this_picks, .ref a_this_pick, .int c_this_hasClimbed, .ref a_this_end, .ref a_this_point, .ref a_this_score, .ref a_this_by, .ref a_this_four, .ref a_this_isNear, .ref a_this_number, .ref a_this_numbers, .ref a_this_place, .ref a_this_was])), (a_this_frontPlan, .inl (cI, 2000, .inl c_this_frontPlan)), (a_this_number, .inl (cI, 52, .inl c_this_number)), (a_this_numbers, .inl (cI, 4, .inl c_this_numbers)), (a_this_place, .inl (cI, 4, .inl c_this_place)), (a_this_planScore, .inl (cI, 8000, .inl c_this_planScore))] H locs → lv_has ls 3 [(0, .ref a_this), (1, .int v1_17), (2, .int v2_17)] → W p l e rm_X7_isBox s m args below meth c H locs 0 0 Q (F0 m 17 ls []) := by
      intro n
      induction n with
      | zero => intro v1_17 v2_17 H locs ls hw; exact False.elim hw
      | succ n ih_17 =>
        intro v1_17 v2_17 H locs ls hw hG hl
        obtain ⟨w_17, hw_17, hw⟩ : ∃ w' : Int32 → Int32 → Prop, (∀ v1_17 v2_17, w' v1_17 v2_17 → Lp2 (b_X7_isBox_17 c_this_aims c_this_front c_this_frontPlan c_this_number c_this_numbers c_this_place c_this_planScore kx_17) n v1_17 v2_17) ∧ b_X7_isBox_17 c_this_aims c_this_front c_this_frontPlan c_this_number c_this_numbers c_this_place c_this_planScore kx_17 w' v1_17 v2_17 := ⟨_, fun _ _ h => h, hw⟩
        replace ih_17 : ∀ (v1_17 : Int32) (v2_17 : Int32) (H : Heap) (locs : List Loc) (ls : Array Slot), w_17 v1_17 v2_17 → HW (dC, dI) A s.heap [(a_this, .inr (6, [.int c_this_columns, .int c_this_rows, .int c_this_aims, .ref a_this_lows, .ref a_this_highs, .ref a_this_rights, .ref a_this_terms, .ref a_this_costs, .ref a_this_froms, .ref a_this_tos, .int c_this_gone, .int c_this_plans, .ref a_this_planPoint, .ref a_this_planScore, .int c_this_front, .ref a_this_frontPlan, .ref a_this_frontTies, .int c_this_picks, .ref a_this_pick, .int c_this_hasClimbed, .ref a_this_end, .ref a_this_point, .ref a_this_score, .ref a_this_by, .ref a_this_four, .ref a_this_isNear, .ref a_this_number, .ref a_this_numbers, .ref a_this_place, .ref a_this_was])), (a_this_frontPlan, .inl (cI, 2000, .inl c_this_frontPlan)), (a_this_number, .inl (cI, 52, .inl c_this_number)), (a_this_numbers, .inl (cI, 4, .inl c_this_numbers)), (a_this_place, .inl (cI, 4, .inl c_this_place)), (a_this_planScore, .inl (cI, 8000, .inl c_this_planScore))] H locs → lv_has ls 3 [(0, .ref a_this), (1, .int v1_17), (2, .int v2_17)] → W p l e rm_X7_isBox s m args below meth c H locs 0 0 Q (F0 m 17 ls []) := fun v1_17 v2_17 H locs ls h => ih_17 v1_17 v2_17 H locs ls (hw_17 _ _ h)
        unfold b_X7_isBox_17 at hw
        refine lv_iload_n K.1 K.2.1 dX7_isBox_17 rfl (lv_at hl 2 rfl) ?_
        refine lv_aload_n K.1 K.2.1 dX7_isBox_18 rfl (lv_at hl 0 rfl) ?_
        refine g_get (v := .int c_this_aims) K hG hin_RX7 0 rfl rfl 2 (by decide) (K.2.2.2.2.1 (.fieldLink RX7 89 "AimFrontsModel" "aims" "I") (by decide +kernel)) rfl rfl dX7_isBox_19 ?_
        refine lv_icmp_ge (tgt := 66) K.1 K.2.1 dX7_isBox_22 (by decide) (fun q_22 => ?_) (fun q_22 => ?_)
        · have hw := hw.1 q_22
          exact hX_17 v1_17 H locs ls hw hG (lv_sub hl [1] rfl)
        · have hw := hw.2 q_22
          refine lv_iload_n K.1 K.2.1 dX7_isBox_25 rfl (lv_at hl 1 rfl) ?_
          refine lv_if_eq (tgt := 66) K.1 K.2.1 dX7_isBox_26 (by decide) (fun q_26 => ?_) (fun q_26 => ?_)
          · have hw := hw.1 q_26
            exact hX_17 v1_17 H locs ls hw hG (lv_sub hl [1] rfl)
          · have hw := hw.2 q_26
            refine lv_aload_n K.1 K.2.1 dX7_isBox_29 rfl (lv_at hl 0 rfl) ?_
            refine g_get (v := .ref a_this_place) K hG hin_RX7 0 rfl rfl 28 (by decide) (K.2.2.2.2.1 (.fieldLink RX7 72 "AimFrontsModel" "place" "[I") (by decide +kernel)) rfl rfl dX7_isBox_30 ?_
            refine lv_iload_n K.1 K.2.1 dX7_isBox_33 rfl (lv_at hl 2 rfl) ?_
            obtain ⟨h_34, hw⟩ := hw
            refine g_iald K hG 4 rfl h_34 dX7_isBox_34 ?_
            refine lv_aload_n K.1 K.2.1 dX7_isBox_35 rfl (lv_at hl 0 rfl) ?_
            refine g_get (v := .ref a_this_numbers) K hG hin_RX7 0 rfl rfl 27 (by decide) (K.2.2.2.2.1 (.fieldLink RX7 69 "AimFrontsModel" "numbers" "[I") (by decide +kernel)) rfl rfl dX7_isBox_36 ?_
            refine lv_iload_n K.1 K.2.1 dX7_isBox_39 rfl (lv_at hl 2 rfl) ?_
            obtain ⟨h_40, hw⟩ := hw
            refine g_iald K hG 3 rfl h_40 dX7_isBox_40 ?_
            refine lv_iconst (v := 1) K.1 K.2.1 dX7_isBox_41 (by decide) ?_
            refine lv_isub K.1 K.2.1 dX7_isBox_42 ?_
            refine lv_icmp_eq (tgt := 54) K.1 K.2.1 dX7_isBox_43 (by decide) (fun q_43 => ?_) (fun q_43 => ?_)
            · have hw := hw.1 q_43
              refine lv_iconst (v := 1) K.1 K.2.1 dX7_isBox_54 (by decide) ?_
              refine lv_goto (tgt := 59) K.1 K.2.1 dX7_isBox_55 (by decide) ?_
              refine lv_istore_n (lv' := [(1, .int (1 : Int32)), (0, .ref a_this), (2, .int v2_17)]) K.1 K.2.1 dX7_isBox_59 rfl hl (by decide) rfl (fun ls hl => ?_)
              refine lv_iinc (v := (v2_17 + (1 : Int32))) (lv' := [(2, .int (v2_17 + (1 : Int32))), (1, .int (1 : Int32)), (0, .ref a_this)]) K.1 K.2.1 dX7_isBox_60 hl (k := 2) rfl rfl (by decide) rfl (fun ls hl => ?_)
              refine lv_goto (tgt := 17) K.1 K.2.1 dX7_isBox_63 (by decide) ?_
              exact ih_17 (1 : Int32) (v2_17 + (1 : Int32)) H locs ls hw hG (lv_sub hl [2, 1, 0] rfl)
            · have hw := hw.2 q_43
              refine lv_aload_n K.1 K.2.1 dX7_isBox_46 rfl (lv_at hl 0 rfl) ?_
              refine lv_iload_n K.1 K.2.1 dX7_isBox_47 rfl (lv_at hl 2 rfl) ?_
              refine g_ri K hG [0, 1, 2, 4, 5] rfl (g_runV (As := [.int v2_17]) (rest := []) K hG hl [0, 1, 2, 4, 5] rfl rfl 0 rfl rfl (k_X7_someLess l dC dI cI cJ cZ cG H.size a_this a_this_lows a_this_highs a_this_rights a_this_terms a_this_costs a_this_froms a_this_tos a_this_planPoint a_this_planScore a_this_frontPlan a_this_frontTies a_this_pick a_this_end a_this_point a_this_score a_this_by a_this_four a_this_isNear a_this_number a_this_numbers a_this_place a_this_was c_this_aims c_this_columns c_this_front c_this_frontPlan c_this_gone c_this_hasClimbed c_this_number c_this_picks c_this_place c_this_planScore c_this_plans c_this_rows v2_17 _ hw) (cwV 1 K.2.2.2.2.1 gX7_isBox_X7_someLess rfl rfl rfl (by decide +kernel) ⟨by decide, by decide⟩) rfl rfl (Nat.le_of_ble_eq_true rfl) ⟨Nat.zero_le _, Nat.zero_le _⟩ dX7_isBox_48) (fun r_48 H locs hw hG => ?_)
              refine lv_if_eq (tgt := 58) K.1 K.2.1 dX7_isBox_51 (by decide) (fun q_51 => ?_) (fun q_51 => ?_)
              · have hw := hw.1 q_51
                refine lv_iconst (v := 0) K.1 K.2.1 dX7_isBox_58 (by decide) ?_
                refine lv_istore_n (lv' := [(1, .int (0 : Int32)), (0, .ref a_this), (2, .int v2_17)]) K.1 K.2.1 dX7_isBox_59 rfl hl (by decide) rfl (fun ls hl => ?_)
                refine lv_iinc (v := (v2_17 + (1 : Int32))) (lv' := [(2, .int (v2_17 + (1 : Int32))), (1, .int (0 : Int32)), (0, .ref a_this)]) K.1 K.2.1 dX7_isBox_60 hl (k := 2) rfl rfl (by decide) rfl (fun ls hl => ?_)
                refine lv_goto (tgt := 17) K.1 K.2.1 dX7_isBox_63 (by decide) ?_
                exact ih_17 (0 : Int32) (v2_17 + (1 : Int32)) H locs ls hw hG (lv_sub hl [2, 1, 0] rfl)
              · have hw := hw.2 q_51
                refine lv_iconst (v := 1) K.1 K.2.1 dX7_isBox_54 (by decide) ?_
                refine lv_goto (tgt := 59) K.1 K.2.1 dX7_isBox_55 (by decide) ?_
                refine lv_istore_n (lv' := [(1, .int (1 : Int32)), (0, .ref a_this), (2, .int v2_17)]) K.1 K.2.1 dX7_isBox_59 rfl hl (by decide) rfl (fun ls hl => ?_)
                refine lv_iinc (v := (v2_17 + (1 : Int32))) (lv' := [(2, .int (v2_17 + (1 : Int32))), (1, .int (1 : Int32)), (0, .ref a_this)]) K.1 K.2.1 dX7_isBox_60 hl (k := 2) rfl rfl (by decide) rfl (fun ls hl => ?_)
                refine lv_goto (tgt := 17) K.1 K.2.1 dX7_isBox_63 (by decide) ?_
                exact ih_17 (1 : Int32) (v2_17 + (1 : Int32)) H locs ls hw hG (lv_sub hl [2, 1, 0] rfl)
    exact hL_17 n_17 (0 : Int32) (0 : Int32) H locs ls hw hG (lv_sub hl [2, 1, 0] rfl)
  · have hw := hw.1 q_6
    refine lv_iconst (v := 1) K.1 K.2.1 dX7_isBox_9 (by decide) ?_
    refine lv_goto (tgt := 14) K.1 K.2.1 dX7_isBox_10 (by decide) ?_
    refine lv_istore_n (lv' := [(1, .int (1 : Int32)), (0, .ref a_this)]) K.1 K.2.1 dX7_isBox_14 rfl hl (by decide) rfl (fun ls hl => ?_)
    refine lv_iconst (v := 0) K.1 K.2.1 dX7_isBox_15 (by decide) ?_
    refine lv_istore_n (lv' := [(2, .int (0 : Int32)), (1, .int (1 : Int32)), (0, .ref a_this)]) K.1 K.2.1 dX7_isBox_16 rfl hl (by decide) rfl (fun ls hl => ?_)
    obtain ⟨kx_17x, hkx_17x, n_17x, hw⟩ := Lx1_2_abs hw
    have hX_17x : ∀ (v1_17xe : Int32) (H : Heap) (locs : List Loc) (ls : Array Slot), kx_17x v1_17xe → HW (dC, dI) A s.heap [(a_this, .inr (6, [.int c_this_columns, .int c_this_rows, .int c_this_aims, .ref a_this_lows, .ref a_this_highs, .ref a_this_rights, .ref a_this_terms, .ref a_this_costs, .ref a_this_froms, .ref a_this_tos, .int c_this_gone, .int c_this_plans, .ref a_this_planPoint, .ref a_this_planScore, .int c_this_front, .ref a_this_frontPlan, .ref a_this_frontTies, .int c_this_picks, .ref a_this_pick, .int c_this_hasClimbed, .ref a_this_end, .ref a_this_point, .ref a_this_score, .ref a_this_by, .ref a_this_four, .ref a_this_isNear, .ref a_this_number, .ref a_this_numbers, .ref a_this_place, .ref a_this_was])), (a_this_frontPlan, .inl (cI, 2000, .inl c_this_frontPlan)), (a_this_number, .inl (cI, 52, .inl c_this_number)), (a_this_numbers, .inl (cI, 4, .inl c_this_numbers)), (a_this_place, .inl (cI, 4, .inl c_this_place)), (a_this_planScore, .inl (cI, 8000, .inl c_this_planScore))] H locs → lv_has ls 3 [(1, .int v1_17xe)] → W p l e rm_X7_isBox s m args below meth c H locs 0 0 Q (F0 m 66 ls []) := by
      intro v1_17xe H locs ls hw hG hl
      have hw := hkx_17x _ hw
      refine lv_iload_n K.1 K.2.1 dX7_isBox_66 rfl (lv_at hl 0 rfl) ?_
      exact hret v1_17xe () H locs _ ls dX7_isBox_67 hw.1 hw.2 hG
    have hL_17x : ∀ (n : Nat), ∀ (v1_17x : Int32) (v2_17x : Int32) (H : Heap) (locs : List Loc) (ls : Array Slot), Lp2 (b_X7_isBox_17x c_this_aims c_this_front c_this_frontPlan c_this_number c_this_numbers c_this_place c_this_planScore kx_17x) n v1_17x v2_17x → HW (dC, dI) A s.heap [(a_this, .inr (6, [.int c_this_columns, .int c_this_rows, .int c_this_aims, .ref a_this_lows, .ref a_this_highs, .ref a_this_rights, .ref a_this_terms, .ref a_this_costs, .ref a_this_froms, .ref a_this_tos, .int c_this_gone, .int c_this_plans, .ref a_this_planPoint, .ref a_this_planScore, .int c_this_front, .ref a_this_frontPlan, .ref a_this_frontTies, .int c_this_picks, .ref a_this_pick, .int c_this_hasClimbed, .ref a_this_end, .ref a_this_point, .ref a_this_score, .ref a_this_by, .ref a_this_four, .ref a_this_isNear, .ref a_this_number, .ref a_this_numbers, .ref a_this_place, .ref a_this_was])), (a_this_frontPlan, .inl (cI, 2000, .inl c_this_frontPlan)), (a_this_number, .inl (cI, 52, .inl c_this_number)), (a_this_numbers, .inl (cI, 4, .inl c_this_numbers)), (a_this_place, .inl (cI, 4, .inl c_this_place)), (a_this_planScore, .inl (cI, 8000, .inl c_this_planScore))] H locs → lv_has ls 3 [(0, .ref a_this), (1, .int v1_17x), (2, .int v2_17x)] → W p l e rm_X7_isBox s m args below meth c H locs 0 0 Q (F0 m 17 ls []) := by
      intro n
      induction n with
      | zero => intro v1_17x v2_17x H locs ls hw; exact False.elim hw
      | succ n ih_17x =>
        intro v1_17x v2_17x H locs ls hw hG hl
        obtain ⟨w_17x, hw_17x, hw⟩ : ∃ w' : Int32 → Int32 → Prop, (∀ v1_17x v2_17x, w' v1_17x v2_17x → Lp2 (b_X7_isBox_17x c_this_aims c_this_front c_this_frontPlan c_this_number c_this_numbers c_this_place c_this_planScore kx_17x) n v1_17x v2_17x) ∧ b_X7_isBox_17x c_this_aims c_this_front c_this_frontPlan c_this_number c_this_numbers c_this_place c_this_planScore kx_17x w' v1_17x v2_17x := ⟨_, fun _ _ h => h, hw⟩
        replace ih_17x : ∀ (v1_17x : Int32) (v2_17x : Int32) (H : Heap) (locs : List Loc) (ls : Array Slot), w_17x v1_17x v2_17x → HW (dC, dI) A s.heap [(a_this, .inr (6, [.int c_this_columns, .int c_this_rows, .int c_this_aims, .ref a_this_lows, .ref a_this_highs, .ref a_this_rights, .ref a_this_terms, .ref a_this_costs, .ref a_this_froms, .ref a_this_tos, .int c_this_gone, .int c_this_plans, .ref a_this_planPoint, .ref a_this_planScore, .int c_this_front, .ref a_this_frontPlan, .ref a_this_frontTies, .int c_this_picks, .ref a_this_pick, .int c_this_hasClimbed, .ref a_this_end, .ref a_this_point, .ref a_this_score, .ref a_this_by, .ref a_this_four, .ref a_this_isNear, .ref a_this_number, .ref a_this_numbers, .ref a_this_place, .ref a_this_was])), (a_this_frontPlan, .inl (cI, 2000, .inl c_this_frontPlan)), (a_this_number, .inl (cI, 52, .inl c_this_number)), (a_this_numbers, .inl (cI, 4, .inl c_this_numbers)), (a_this_place, .inl (cI, 4, .inl c_this_place)), (a_this_planScore, .inl (cI, 8000, .inl c_this_planScore))] H locs → lv_has ls 3 [(0, .ref a_this), (1, .int v1_17x), (2, .int v2_17x)] → W p l e rm_X7_isBox s m args below meth c H locs 0 0 Q (F0 m 17 ls []) := fun v1_17x v2_17x H locs ls h => ih_17x v1_17x v2_17x H locs ls (hw_17x _ _ h)
        unfold b_X7_isBox_17x at hw
        refine lv_iload_n K.1 K.2.1 dX7_isBox_17 rfl (lv_at hl 2 rfl) ?_
        refine lv_aload_n K.1 K.2.1 dX7_isBox_18 rfl (lv_at hl 0 rfl) ?_
        refine g_get (v := .int c_this_aims) K hG hin_RX7 0 rfl rfl 2 (by decide) (K.2.2.2.2.1 (.fieldLink RX7 89 "AimFrontsModel" "aims" "I") (by decide +kernel)) rfl rfl dX7_isBox_19 ?_
        refine lv_icmp_ge (tgt := 66) K.1 K.2.1 dX7_isBox_22 (by decide) (fun q_22 => ?_) (fun q_22 => ?_)
        · have hw := hw.1 q_22
          exact hX_17x v1_17x H locs ls hw hG (lv_sub hl [1] rfl)
        · have hw := hw.2 q_22
          refine lv_iload_n K.1 K.2.1 dX7_isBox_25 rfl (lv_at hl 1 rfl) ?_
          refine lv_if_eq (tgt := 66) K.1 K.2.1 dX7_isBox_26 (by decide) (fun q_26 => ?_) (fun q_26 => ?_)
          · have hw := hw.1 q_26
            exact hX_17x v1_17x H locs ls hw hG (lv_sub hl [1] rfl)
          · have hw := hw.2 q_26
            refine lv_aload_n K.1 K.2.1 dX7_isBox_29 rfl (lv_at hl 0 rfl) ?_
            refine g_get (v := .ref a_this_place) K hG hin_RX7 0 rfl rfl 28 (by decide) (K.2.2.2.2.1 (.fieldLink RX7 72 "AimFrontsModel" "place" "[I") (by decide +kernel)) rfl rfl dX7_isBox_30 ?_
            refine lv_iload_n K.1 K.2.1 dX7_isBox_33 rfl (lv_at hl 2 rfl) ?_
            obtain ⟨h_34, hw⟩ := hw
            refine g_iald K hG 4 rfl h_34 dX7_isBox_34 ?_
            refine lv_aload_n K.1 K.2.1 dX7_isBox_35 rfl (lv_at hl 0 rfl) ?_
            refine g_get (v := .ref a_this_numbers) K hG hin_RX7 0 rfl rfl 27 (by decide) (K.2.2.2.2.1 (.fieldLink RX7 69 "AimFrontsModel" "numbers" "[I") (by decide +kernel)) rfl rfl dX7_isBox_36 ?_
            refine lv_iload_n K.1 K.2.1 dX7_isBox_39 rfl (lv_at hl 2 rfl) ?_
            obtain ⟨h_40, hw⟩ := hw
            refine g_iald K hG 3 rfl h_40 dX7_isBox_40 ?_
            refine lv_iconst (v := 1) K.1 K.2.1 dX7_isBox_41 (by decide) ?_
            refine lv_isub K.1 K.2.1 dX7_isBox_42 ?_
            refine lv_icmp_eq (tgt := 54) K.1 K.2.1 dX7_isBox_43 (by decide) (fun q_43 => ?_) (fun q_43 => ?_)
            · have hw := hw.1 q_43
              refine lv_iconst (v := 1) K.1 K.2.1 dX7_isBox_54 (by decide) ?_
              refine lv_goto (tgt := 59) K.1 K.2.1 dX7_isBox_55 (by decide) ?_
              refine lv_istore_n (lv' := [(1, .int (1 : Int32)), (0, .ref a_this), (2, .int v2_17x)]) K.1 K.2.1 dX7_isBox_59 rfl hl (by decide) rfl (fun ls hl => ?_)
              refine lv_iinc (v := (v2_17x + (1 : Int32))) (lv' := [(2, .int (v2_17x + (1 : Int32))), (1, .int (1 : Int32)), (0, .ref a_this)]) K.1 K.2.1 dX7_isBox_60 hl (k := 2) rfl rfl (by decide) rfl (fun ls hl => ?_)
              refine lv_goto (tgt := 17) K.1 K.2.1 dX7_isBox_63 (by decide) ?_
              exact ih_17x (1 : Int32) (v2_17x + (1 : Int32)) H locs ls hw hG (lv_sub hl [2, 1, 0] rfl)
            · have hw := hw.2 q_43
              refine lv_aload_n K.1 K.2.1 dX7_isBox_46 rfl (lv_at hl 0 rfl) ?_
              refine lv_iload_n K.1 K.2.1 dX7_isBox_47 rfl (lv_at hl 2 rfl) ?_
              refine g_ri K hG [0, 1, 2, 4, 5] rfl (g_runV (As := [.int v2_17x]) (rest := []) K hG hl [0, 1, 2, 4, 5] rfl rfl 0 rfl rfl (k_X7_someLess l dC dI cI cJ cZ cG H.size a_this a_this_lows a_this_highs a_this_rights a_this_terms a_this_costs a_this_froms a_this_tos a_this_planPoint a_this_planScore a_this_frontPlan a_this_frontTies a_this_pick a_this_end a_this_point a_this_score a_this_by a_this_four a_this_isNear a_this_number a_this_numbers a_this_place a_this_was c_this_aims c_this_columns c_this_front c_this_frontPlan c_this_gone c_this_hasClimbed c_this_number c_this_picks c_this_place c_this_planScore c_this_plans c_this_rows v2_17x _ hw) (cwV 1 K.2.2.2.2.1 gX7_isBox_X7_someLess rfl rfl rfl (by decide +kernel) ⟨by decide, by decide⟩) rfl rfl (Nat.le_of_ble_eq_true rfl) ⟨Nat.zero_le _, Nat.zero_le _⟩ dX7_isBox_48) (fun r_48 H locs hw hG => ?_)
              refine lv_if_eq (tgt := 58) K.1 K.2.1 dX7_isBox_51 (by decide) (fun q_51 => ?_) (fun q_51 => ?_)
              · have hw := hw.1 q_51
                refine lv_iconst (v := 0) K.1 K.2.1 dX7_isBox_58 (by decide) ?_
                refine lv_istore_n (lv' := [(1, .int (0 : Int32)), (0, .ref a_this), (2, .int v2_17x)]) K.1 K.2.1 dX7_isBox_59 rfl hl (by decide) rfl (fun ls hl => ?_)
                refine lv_iinc (v := (v2_17x + (1 : Int32))) (lv' := [(2, .int (v2_17x + (1 : Int32))), (1, .int (0 : Int32)), (0, .ref a_this)]) K.1 K.2.1 dX7_isBox_60 hl (k := 2) rfl rfl (by decide) rfl (fun ls hl => ?_)
                refine lv_goto (tgt := 17) K.1 K.2.1 dX7_isBox_63 (by decide) ?_
                exact ih_17x (0 : Int32) (v2_17x + (1 : Int32)) H locs ls hw hG (lv_sub hl [2, 1, 0] rfl)
              · have hw := hw.2 q_51
                refine lv_iconst (v := 1) K.1 K.2.1 dX7_isBox_54 (by decide) ?_
                refine lv_goto (tgt := 59) K.1 K.2.1 dX7_isBox_55 (by decide) ?_
                refine lv_istore_n (lv' := [(1, .int (1 : Int32)), (0, .ref a_this), (2, .int v2_17x)]) K.1 K.2.1 dX7_isBox_59 rfl hl (by decide) rfl (fun ls hl => ?_)
                refine lv_iinc (v := (v2_17x + (1 : Int32))) (lv' := [(2, .int (v2_17x + (1 : Int32))), (1, .int (1 : Int32)), (0, .ref a_this)]) K.1 K.2.1 dX7_isBox_60 hl (k := 2) rfl rfl (by decide) rfl (fun ls hl => ?_)
                refine lv_goto (tgt := 17) K.1 K.2.1 dX7_isBox_63 (by decide) ?_
                exact ih_17x (1 : Int32) (v2_17x + (1 : Int32)) H locs ls hw hG (lv_sub hl [2, 1, 0] rfl)
    exact hL_17x n_17x (1 : Int32) (0 : Int32) H locs ls hw hG (lv_sub hl [2, 1, 0] rfl)
abbrev rm_X7_nextPlace : Room := { frames := 0, cells := 0, slots := 0, locals := 0 }
set_option maxHeartbeats 4000000 in
set_option maxRecDepth 100000 in
theorem k_X7_nextPlace (l : Launch) (dC : Nat → ClassId) (dI : Nat → Nat → Nat) (cI cJ cZ cG : ClassId) (sz : Nat) (a_this a_this_lows a_this_highs a_this_rights a_this_terms a_this_costs a_this_froms a_this_tos a_this_planPoint a_this_planScore a_this_frontPlan a_this_frontTies a_this_pick a_this_end a_this_point a_this_score a_this_by a_this_four a_this_isNear a_this_number a_this_numbers a_this_place a_this_was : Nat) (c_this_aims : Int32) (c_this_columns : Int32) (c_this_front : Int32) (c_this_gone : Int32) (c_this_hasClimbed : Int32) (c_this_numbers : Nat → Int32) (c_this_picks : Int32) (c_this_place : Nat → Int32) (c_this_plans : Int32) (c_this_rows : Int32) (x1 : Int32) (post : Int32 → (Nat → Int32) → Prop) (hw : wp_X7_nextPlace c_this_aims c_this_numbers c_this_place x1 post) : MetI l yX7_nextPlace wsX7_nextPlace rm_X7_nextPlace (dC, dI) cI cJ cZ cG [.ref a_this, .int x1] sz [(a_this, .inr (6, [.int c_this_columns, .int c_this_rows, .int c_this_aims, .ref a_this_lows, .ref a_this_highs, .ref a_this_rights, .ref a_this_terms, .ref a_this_costs, .ref a_this_froms, .ref a_this_tos, .int c_this_gone, .int c_this_plans, .ref a_this_planPoint, .ref a_this_planScore, .int c_this_front, .ref a_this_frontPlan, .ref a_this_frontTies, .int c_this_picks, .ref a_this_pick, .int c_this_hasClimbed, .ref a_this_end, .ref a_this_point, .ref a_this_score, .ref a_this_by, .ref a_this_four, .ref a_this_isNear, .ref a_this_number, .ref a_this_numbers, .ref a_this_place, .ref a_this_was])), (a_this_numbers, .inl (cI, 4, .inl c_this_numbers)), (a_this_place, .inl (cI, 4, .inl c_this_place))] (fun (r : Int32) (u : (Nat → Int32)) => post r u) (fun u => [(a_this, .inr (6, [.int c_this_columns, .int c_this_rows, .int c_this_aims, .ref a_this_lows, .ref a_this_highs, .ref a_this_rights, .ref a_this_terms, .ref a_this_costs, .ref a_this_froms, .ref a_this_tos, .int c_this_gone, .int c_this_plans, .ref a_this_planPoint, .ref a_this_planScore, .int c_this_front, .ref a_this_frontPlan, .ref a_this_frontTies, .int c_this_picks, .ref a_this_pick, .int c_this_hasClimbed, .ref a_this_end, .ref a_this_point, .ref a_this_score, .ref a_this_by, .ref a_this_four, .ref a_this_isNear, .ref a_this_number, .ref a_this_numbers, .ref a_this_place, .ref a_this_was])), (a_this_numbers, .inl (cI, 4, .inl c_this_numbers)), (a_this_place, .inl (cI, 4, .inl u))]) := by
  refine met_i (ty := .boolean) (Or.inr rfl) (cc := cX7_nextPlace) (maxL := 3) (by decide) rfl (Nat.le_of_ble_eq_true rfl) ?_
  intro p e s m args below meth c A Q H locs ls K hG hl hret
  have hl : lv_has ls 3 [(0, .ref a_this), (1, .int x1)] := hl
  have hin_RX7 : ∀ w ∈ u_ws RX7 TX7 30, w ∈ wsX7_nextPlace := by decide +kernel
  unfold wp_X7_nextPlace at hw
  refine lv_aload_n K.1 K.2.1 dX7_nextPlace_0 rfl (lv_at hl 0 rfl) ?_
  refine g_get (v := .int c_this_aims) K hG hin_RX7 0 rfl rfl 2 (by decide) (K.2.2.2.2.1 (.fieldLink RX7 89 "AimFrontsModel" "aims" "I") (by decide +kernel)) rfl rfl dX7_nextPlace_1 ?_
  refine lv_iconst (v := 1) K.1 K.2.1 dX7_nextPlace_4 (by decide) ?_
  refine lv_isub K.1 K.2.1 dX7_nextPlace_5 ?_
  refine lv_istore_n (lv' := [(2, .int (c_this_aims - (1 : Int32))), (0, .ref a_this), (1, .int x1)]) K.1 K.2.1 dX7_nextPlace_6 rfl hl (by decide) rfl (fun ls hl => ?_)
  obtain ⟨kx_7, hkx_7, n_7, hw⟩ := Lx1_2_abs hw
  have hX_7 : ∀ (c_this_place_7e : Nat → Int32) (H : Heap) (locs : List Loc) (ls : Array Slot), kx_7 c_this_place_7e → HW (dC, dI) A s.heap [(a_this, .inr (6, [.int c_this_columns, .int c_this_rows, .int c_this_aims, .ref a_this_lows, .ref a_this_highs, .ref a_this_rights, .ref a_this_terms, .ref a_this_costs, .ref a_this_froms, .ref a_this_tos, .int c_this_gone, .int c_this_plans, .ref a_this_planPoint, .ref a_this_planScore, .int c_this_front, .ref a_this_frontPlan, .ref a_this_frontTies, .int c_this_picks, .ref a_this_pick, .int c_this_hasClimbed, .ref a_this_end, .ref a_this_point, .ref a_this_score, .ref a_this_by, .ref a_this_four, .ref a_this_isNear, .ref a_this_number, .ref a_this_numbers, .ref a_this_place, .ref a_this_was])), (a_this_numbers, .inl (cI, 4, .inl c_this_numbers)), (a_this_place, .inl (cI, 4, .inl c_this_place_7e))] H locs → lv_has ls 3 [] → W p l e rm_X7_nextPlace s m args below meth c H locs 0 0 Q (F0 m 55 ls []) := by
    intro c_this_place_7e H locs ls hw hG hl
    have hw := hkx_7 _ hw
    refine lv_iconst (v := 0) K.1 K.2.1 dX7_nextPlace_55 (by decide) ?_
    exact hret (0 : Int32) c_this_place_7e H locs _ ls dX7_nextPlace_56 rfl hw hG
  have hL_7 : ∀ (n : Nat), ∀ (v2_7 : Int32) (c_this_place_7 : Nat → Int32) (H : Heap) (locs : List Loc) (ls : Array Slot), Lp2 (b_X7_nextPlace_7 c_this_numbers x1 post kx_7) n v2_7 c_this_place_7 → HW (dC, dI) A s.heap [(a_this, .inr (6, [.int c_this_columns, .int c_this_rows, .int c_this_aims, .ref a_this_lows, .ref a_this_highs, .ref a_this_rights, .ref a_this_terms, .ref a_this_costs, .ref a_this_froms, .ref a_this_tos, .int c_this_gone, .int c_this_plans, .ref a_this_planPoint, .ref a_this_planScore, .int c_this_front, .ref a_this_frontPlan, .ref a_this_frontTies, .int c_this_picks, .ref a_this_pick, .int c_this_hasClimbed, .ref a_this_end, .ref a_this_point, .ref a_this_score, .ref a_this_by, .ref a_this_four, .ref a_this_isNear, .ref a_this_number, .ref a_this_numbers, .ref a_this_place, .ref a_this_was])), (a_this_numbers, .inl (cI, 4, .inl c_this_numbers)), (a_this_place, .inl (cI, 4, .inl c_this_place_7))] H locs → lv_has ls 3 [(0, .ref a_this), (1, .int x1), (2, .int v2_7)] → W p l e rm_X7_nextPlace s m args below meth c H locs 0 0 Q (F0 m 7 ls []) := by
    intro n
    induction n with
    | zero => intro v2_7 c_this_place_7 H locs ls hw; exact False.elim hw
    | succ n ih_7 =>
      intro v2_7 c_this_place_7 H locs ls hw hG hl
      obtain ⟨w_7, hw_7, hw⟩ : ∃ w' : Int32 → (Nat → Int32) → Prop, (∀ v2_7 c_this_place_7, w' v2_7 c_this_place_7 → Lp2 (b_X7_nextPlace_7 c_this_numbers x1 post kx_7) n v2_7 c_this_place_7) ∧ b_X7_nextPlace_7 c_this_numbers x1 post kx_7 w' v2_7 c_this_place_7 := ⟨_, fun _ _ h => h, hw⟩
      replace ih_7 : ∀ (v2_7 : Int32) (c_this_place_7 : Nat → Int32) (H : Heap) (locs : List Loc) (ls : Array Slot), w_7 v2_7 c_this_place_7 → HW (dC, dI) A s.heap [(a_this, .inr (6, [.int c_this_columns, .int c_this_rows, .int c_this_aims, .ref a_this_lows, .ref a_this_highs, .ref a_this_rights, .ref a_this_terms, .ref a_this_costs, .ref a_this_froms, .ref a_this_tos, .int c_this_gone, .int c_this_plans, .ref a_this_planPoint, .ref a_this_planScore, .int c_this_front, .ref a_this_frontPlan, .ref a_this_frontTies, .int c_this_picks, .ref a_this_pick, .int c_this_hasClimbed, .ref a_this_end, .ref a_this_point, .ref a_this_score, .ref a_this_by, .ref a_this_four, .ref a_this_isNear, .ref a_this_number, .ref a_this_numbers, .ref a_this_place, .ref a_this_was])), (a_this_numbers, .inl (cI, 4, .inl c_this_numbers)), (a_this_place, .inl (cI, 4, .inl c_this_place_7))] H locs → lv_has ls 3 [(0, .ref a_this), (1, .int x1), (2, .int v2_7)] → W p l e rm_X7_nextPlace s m args below meth c H locs 0 0 Q (F0 m 7 ls []) := fun v2_7 c_this_place_7 H locs ls h => ih_7 v2_7 c_this_place_7 H locs ls (hw_7 _ _ h)
      unfold b_X7_nextPlace_7 at hw
      refine lv_iload_n K.1 K.2.1 dX7_nextPlace_7 rfl (lv_at hl 2 rfl) ?_
      refine lv_if_lt (tgt := 55) K.1 K.2.1 dX7_nextPlace_8 (by decide) (fun q_8 => ?_) (fun q_8 => ?_)
      · have hw := hw.1 q_8
        exact hX_7 c_this_place_7 H locs ls hw hG (lv_sub hl [] rfl)
      · have hw := hw.2 q_8
        refine lv_aload_n K.1 K.2.1 dX7_nextPlace_11 rfl (lv_at hl 0 rfl) ?_
        refine g_get (v := .ref a_this_place) K hG hin_RX7 0 rfl rfl 28 (by decide) (K.2.2.2.2.1 (.fieldLink RX7 72 "AimFrontsModel" "place" "[I") (by decide +kernel)) rfl rfl dX7_nextPlace_12 ?_
        refine lv_iload_n K.1 K.2.1 dX7_nextPlace_15 rfl (lv_at hl 2 rfl) ?_
        obtain ⟨h_16, hw⟩ := hw
        refine g_iald K hG 2 rfl h_16 dX7_nextPlace_16 ?_
        refine lv_aload_n K.1 K.2.1 dX7_nextPlace_17 rfl (lv_at hl 0 rfl) ?_
        refine g_get (v := .ref a_this_numbers) K hG hin_RX7 0 rfl rfl 27 (by decide) (K.2.2.2.2.1 (.fieldLink RX7 69 "AimFrontsModel" "numbers" "[I") (by decide +kernel)) rfl rfl dX7_nextPlace_18 ?_
        refine lv_iload_n K.1 K.2.1 dX7_nextPlace_21 rfl (lv_at hl 2 rfl) ?_
        obtain ⟨h_22, hw⟩ := hw
        refine g_iald K hG 1 rfl h_22 dX7_nextPlace_22 ?_
        refine lv_iconst (v := 1) K.1 K.2.1 dX7_nextPlace_23 (by decide) ?_
        refine lv_isub K.1 K.2.1 dX7_nextPlace_24 ?_
        refine lv_iload_n K.1 K.2.1 dX7_nextPlace_25 rfl (lv_at hl 1 rfl) ?_
        refine lv_isub K.1 K.2.1 dX7_nextPlace_26 ?_
        refine lv_icmp_ge (tgt := 42) K.1 K.2.1 dX7_nextPlace_27 (by decide) (fun q_27 => ?_) (fun q_27 => ?_)
        · have hw := hw.1 q_27
          refine lv_aload_n K.1 K.2.1 dX7_nextPlace_42 rfl (lv_at hl 0 rfl) ?_
          refine g_get (v := .ref a_this_place) K hG hin_RX7 0 rfl rfl 28 (by decide) (K.2.2.2.2.1 (.fieldLink RX7 72 "AimFrontsModel" "place" "[I") (by decide +kernel)) rfl rfl dX7_nextPlace_43 ?_
          refine lv_iload_n K.1 K.2.1 dX7_nextPlace_46 rfl (lv_at hl 2 rfl) ?_
          refine lv_iconst (v := 0) K.1 K.2.1 dX7_nextPlace_47 (by decide) ?_
          obtain ⟨h_48, hw⟩ := hw
          refine g_iast (ws' := [(a_this, .inr (6, [.int c_this_columns, .int c_this_rows, .int c_this_aims, .ref a_this_lows, .ref a_this_highs, .ref a_this_rights, .ref a_this_terms, .ref a_this_costs, .ref a_this_froms, .ref a_this_tos, .int c_this_gone, .int c_this_plans, .ref a_this_planPoint, .ref a_this_planScore, .int c_this_front, .ref a_this_frontPlan, .ref a_this_frontTies, .int c_this_picks, .ref a_this_pick, .int c_this_hasClimbed, .ref a_this_end, .ref a_this_point, .ref a_this_score, .ref a_this_by, .ref a_this_four, .ref a_this_isNear, .ref a_this_number, .ref a_this_numbers, .ref a_this_place, .ref a_this_was])), (a_this_numbers, .inl (cI, 4, .inl c_this_numbers)), (a_this_place, .inl (cI, 4, .inl (upd c_this_place_7 (v2_7).toNatClampNeg (0 : Int32))))]) K hG 2 rfl h_48 rfl dX7_nextPlace_48 (fun H locs hG => ?_)
          refine lv_iinc (v := (v2_7 + (-1 : Int32))) (lv' := [(2, .int (v2_7 + (-1 : Int32))), (0, .ref a_this), (1, .int x1)]) K.1 K.2.1 dX7_nextPlace_49 hl (k := 2) rfl rfl (by decide) rfl (fun ls hl => ?_)
          refine lv_goto (tgt := 7) K.1 K.2.1 dX7_nextPlace_52 (by decide) ?_
          exact ih_7 (v2_7 + (-1 : Int32)) (upd c_this_place_7 (v2_7).toNatClampNeg (0 : Int32)) H locs ls hw hG (lv_sub hl [1, 2, 0] rfl)
        · have hw := hw.2 q_27
          refine lv_aload_n K.1 K.2.1 dX7_nextPlace_30 rfl (lv_at hl 0 rfl) ?_
          refine g_get (v := .ref a_this_place) K hG hin_RX7 0 rfl rfl 28 (by decide) (K.2.2.2.2.1 (.fieldLink RX7 72 "AimFrontsModel" "place" "[I") (by decide +kernel)) rfl rfl dX7_nextPlace_31 ?_
          refine lv_iload_n K.1 K.2.1 dX7_nextPlace_34 rfl (lv_at hl 2 rfl) ?_
          refine lv_dup2_11 K.1 K.2.1 dX7_nextPlace_35 rfl rfl ?_
          obtain ⟨h_36, hw⟩ := hw
          refine g_iald K hG 2 rfl h_36 dX7_nextPlace_36 ?_
          refine lv_iconst (v := 1) K.1 K.2.1 dX7_nextPlace_37 (by decide) ?_
          refine lv_iadd K.1 K.2.1 dX7_nextPlace_38 ?_
          obtain ⟨h_39, hw⟩ := hw
          refine g_iast (ws' := [(a_this, .inr (6, [.int c_this_columns, .int c_this_rows, .int c_this_aims, .ref a_this_lows, .ref a_this_highs, .ref a_this_rights, .ref a_this_terms, .ref a_this_costs, .ref a_this_froms, .ref a_this_tos, .int c_this_gone, .int c_this_plans, .ref a_this_planPoint, .ref a_this_planScore, .int c_this_front, .ref a_this_frontPlan, .ref a_this_frontTies, .int c_this_picks, .ref a_this_pick, .int c_this_hasClimbed, .ref a_this_end, .ref a_this_point, .ref a_this_score, .ref a_this_by, .ref a_this_four, .ref a_this_isNear, .ref a_this_number, .ref a_this_numbers, .ref a_this_place, .ref a_this_was])), (a_this_numbers, .inl (cI, 4, .inl c_this_numbers)), (a_this_place, .inl (cI, 4, .inl (upd c_this_place_7 (v2_7).toNatClampNeg ((c_this_place_7 (v2_7).toNatClampNeg) + (1 : Int32)))))]) K hG 2 rfl h_39 rfl dX7_nextPlace_39 (fun H locs hG => ?_)
          refine lv_iconst (v := 1) K.1 K.2.1 dX7_nextPlace_40 (by decide) ?_
          exact hret (1 : Int32) (upd c_this_place_7 (v2_7).toNatClampNeg ((c_this_place_7 (v2_7).toNatClampNeg) + (1 : Int32))) H locs _ ls dX7_nextPlace_41 rfl hw hG
  exact hL_7 n_7 (c_this_aims - (1 : Int32)) c_this_place H locs ls hw hG (lv_sub hl [1, 2, 0] rfl)
abbrev rm_X7_firstPlace : Room := { frames := 4, cells := 0, slots := 0, locals := 92 }
set_option maxHeartbeats 4000000 in
set_option maxRecDepth 100000 in
theorem k_X7_firstPlace (l : Launch) (dC : Nat → ClassId) (dI : Nat → Nat → Nat) (cI cJ cZ cG : ClassId) (sz : Nat) (a_this a_this_lows a_this_highs a_this_rights a_this_terms a_this_costs a_this_froms a_this_tos a_this_planPoint a_this_planScore a_this_frontPlan a_this_frontTies a_this_pick a_this_end a_this_point a_this_score a_this_by a_this_four a_this_isNear a_this_number a_this_numbers a_this_place a_this_was : Nat) (c_this_aims : Int32) (c_this_columns : Int32) (c_this_front : Int32) (c_this_frontPlan : Nat → Int32) (c_this_gone : Int32) (c_this_hasClimbed : Int32) (c_this_number : Nat → Int32) (c_this_numbers : Nat → Int32) (c_this_picks : Int32) (c_this_place : Nat → Int32) (c_this_planScore : Nat → Int32) (c_this_plans : Int32) (c_this_rows : Int32) (post : (Nat → Int32) → (Nat → Int32) → (Nat → Int32) → Prop) (hw : wp_X7_firstPlace c_this_aims c_this_front c_this_frontPlan c_this_number c_this_numbers c_this_place c_this_planScore post) : MetV l yX7_firstPlace wsX7_firstPlace rm_X7_firstPlace (dC, dI) cI cJ cZ cG [.ref a_this] sz [(a_this, .inr (6, [.int c_this_columns, .int c_this_rows, .int c_this_aims, .ref a_this_lows, .ref a_this_highs, .ref a_this_rights, .ref a_this_terms, .ref a_this_costs, .ref a_this_froms, .ref a_this_tos, .int c_this_gone, .int c_this_plans, .ref a_this_planPoint, .ref a_this_planScore, .int c_this_front, .ref a_this_frontPlan, .ref a_this_frontTies, .int c_this_picks, .ref a_this_pick, .int c_this_hasClimbed, .ref a_this_end, .ref a_this_point, .ref a_this_score, .ref a_this_by, .ref a_this_four, .ref a_this_isNear, .ref a_this_number, .ref a_this_numbers, .ref a_this_place, .ref a_this_was])), (a_this_frontPlan, .inl (cI, 2000, .inl c_this_frontPlan)), (a_this_number, .inl (cI, 52, .inl c_this_number)), (a_this_numbers, .inl (cI, 4, .inl c_this_numbers)), (a_this_place, .inl (cI, 4, .inl c_this_place)), (a_this_planScore, .inl (cI, 8000, .inl c_this_planScore))] (fun (u : (Nat → Int32) × (Nat → Int32) × (Nat → Int32)) => post (u.1) (u.2.1) (u.2.2)) (fun u => [(a_this, .inr (6, [.int c_this_columns, .int c_this_rows, .int c_this_aims, .ref a_this_lows, .ref a_this_highs, .ref a_this_rights, .ref a_this_terms, .ref a_this_costs, .ref a_this_froms, .ref a_this_tos, .int c_this_gone, .int c_this_plans, .ref a_this_planPoint, .ref a_this_planScore, .int c_this_front, .ref a_this_frontPlan, .ref a_this_frontTies, .int c_this_picks, .ref a_this_pick, .int c_this_hasClimbed, .ref a_this_end, .ref a_this_point, .ref a_this_score, .ref a_this_by, .ref a_this_four, .ref a_this_isNear, .ref a_this_number, .ref a_this_numbers, .ref a_this_place, .ref a_this_was])), (a_this_frontPlan, .inl (cI, 2000, .inl c_this_frontPlan)), (a_this_number, .inl (cI, 52, .inl (u.1))), (a_this_numbers, .inl (cI, 4, .inl (u.2.1))), (a_this_place, .inl (cI, 4, .inl (u.2.2))), (a_this_planScore, .inl (cI, 8000, .inl c_this_planScore))]) := by
  refine met_v (cc := cX7_firstPlace) (maxL := 2) (by decide) rfl (Nat.le_of_ble_eq_true rfl) ?_
  intro p e s m args below meth c A Q H locs ls K hG hl hret
  have hl : lv_has ls 2 [(0, .ref a_this)] := hl
  have hin_RX7 : ∀ w ∈ u_ws RX7 TX7 30, w ∈ wsX7_firstPlace := by decide +kernel
  unfold wp_X7_firstPlace at hw
  refine lv_aload_n K.1 K.2.1 dX7_firstPlace_0 rfl (lv_at hl 0 rfl) ?_
  refine g_nv (w2 := (fun u => [(a_this, .inr (6, [.int c_this_columns, .int c_this_rows, .int c_this_aims, .ref a_this_lows, .ref a_this_highs, .ref a_this_rights, .ref a_this_terms, .ref a_this_costs, .ref a_this_froms, .ref a_this_tos, .int c_this_gone, .int c_this_plans, .ref a_this_planPoint, .ref a_this_planScore, .int c_this_front, .ref a_this_frontPlan, .ref a_this_frontTies, .int c_this_picks, .ref a_this_pick, .int c_this_hasClimbed, .ref a_this_end, .ref a_this_point, .ref a_this_score, .ref a_this_by, .ref a_this_four, .ref a_this_isNear, .ref a_this_number, .ref a_this_numbers, .ref a_this_place, .ref a_this_was])), (a_this_frontPlan, .inl (cI, 2000, .inl c_this_frontPlan)), (a_this_number, .inl (cI, 52, .inl (u.1))), (a_this_numbers, .inl (cI, 4, .inl (u.2))), (a_this_place, .inl (cI, 4, .inl c_this_place)), (a_this_planScore, .inl (cI, 8000, .inl c_this_planScore))])) (wr := [(a_this_place, .inl (cI, 4, .inl c_this_place))]) K hG [0, 1, 2, 3, 5] [4] 6 rfl (g_runV (As := []) (rest := []) K hG hl [0, 1, 2, 3, 5] rfl rfl 0 rfl rfl (k_X7_findNumbers l dC dI cI cJ cZ cG H.size a_this a_this_lows a_this_highs a_this_rights a_this_terms a_this_costs a_this_froms a_this_tos a_this_planPoint a_this_planScore a_this_frontPlan a_this_frontTies a_this_pick a_this_end a_this_point a_this_score a_this_by a_this_four a_this_isNear a_this_number a_this_numbers a_this_place a_this_was c_this_aims c_this_columns c_this_front c_this_frontPlan c_this_gone c_this_hasClimbed c_this_number c_this_numbers c_this_picks c_this_planScore c_this_plans c_this_rows _ hw) (cwV 0 K.2.2.2.2.1 gX7_firstPlace_X7_findNumbers rfl rfl rfl (by decide +kernel) ⟨by decide, by decide⟩) rfl rfl (Nat.le_of_ble_eq_true rfl) ⟨Nat.zero_le _, Nat.zero_le _⟩ dX7_firstPlace_1) (fun _ => rfl) (fun _ => rfl) rfl (fun _ => rfl) (fun _ => rfl) (by decide) (by decide) (by decide) (fun u H locs hw hG => ?_)
  obtain ⟨c_this_number_1, c_this_numbers_1⟩ := u
  have hG : HW (dC, dI) A s.heap [(a_this, .inr (6, [.int c_this_columns, .int c_this_rows, .int c_this_aims, .ref a_this_lows, .ref a_this_highs, .ref a_this_rights, .ref a_this_terms, .ref a_this_costs, .ref a_this_froms, .ref a_this_tos, .int c_this_gone, .int c_this_plans, .ref a_this_planPoint, .ref a_this_planScore, .int c_this_front, .ref a_this_frontPlan, .ref a_this_frontTies, .int c_this_picks, .ref a_this_pick, .int c_this_hasClimbed, .ref a_this_end, .ref a_this_point, .ref a_this_score, .ref a_this_by, .ref a_this_four, .ref a_this_isNear, .ref a_this_number, .ref a_this_numbers, .ref a_this_place, .ref a_this_was])), (a_this_frontPlan, .inl (cI, 2000, .inl c_this_frontPlan)), (a_this_number, .inl (cI, 52, .inl c_this_number_1)), (a_this_numbers, .inl (cI, 4, .inl c_this_numbers_1)), (a_this_place, .inl (cI, 4, .inl c_this_place)), (a_this_planScore, .inl (cI, 8000, .inl c_this_planScore))] H locs := hG
  refine lv_iconst (v := 0) K.1 K.2.1 dX7_firstPlace_4 (by decide) ?_
  refine lv_istore_n (lv' := [(1, .int (0 : Int32)), (0, .ref a_this)]) K.1 K.2.1 dX7_firstPlace_5 rfl hl (by decide) rfl (fun ls hl => ?_)
  obtain ⟨kx_6, hkx_6, n_6, hw⟩ := Lx1_2_abs hw
  have hX_6 : ∀ (c_this_place_6e : Nat → Int32) (H : Heap) (locs : List Loc) (ls : Array Slot), kx_6 c_this_place_6e → HW (dC, dI) A s.heap [(a_this, .inr (6, [.int c_this_columns, .int c_this_rows, .int c_this_aims, .ref a_this_lows, .ref a_this_highs, .ref a_this_rights, .ref a_this_terms, .ref a_this_costs, .ref a_this_froms, .ref a_this_tos, .int c_this_gone, .int c_this_plans, .ref a_this_planPoint, .ref a_this_planScore, .int c_this_front, .ref a_this_frontPlan, .ref a_this_frontTies, .int c_this_picks, .ref a_this_pick, .int c_this_hasClimbed, .ref a_this_end, .ref a_this_point, .ref a_this_score, .ref a_this_by, .ref a_this_four, .ref a_this_isNear, .ref a_this_number, .ref a_this_numbers, .ref a_this_place, .ref a_this_was])), (a_this_frontPlan, .inl (cI, 2000, .inl c_this_frontPlan)), (a_this_number, .inl (cI, 52, .inl c_this_number_1)), (a_this_numbers, .inl (cI, 4, .inl c_this_numbers_1)), (a_this_place, .inl (cI, 4, .inl c_this_place_6e)), (a_this_planScore, .inl (cI, 8000, .inl c_this_planScore))] H locs → lv_has ls 2 [] → W p l e rm_X7_firstPlace s m args below meth c H locs 0 0 Q (F0 m 24 ls []) := by
    intro c_this_place_6e H locs ls hw hG hl
    have hw := hkx_6 _ hw
    exact hret (c_this_number_1, c_this_numbers_1, c_this_place_6e) H locs _ ls dX7_firstPlace_24 hw hG
  have hL_6 : ∀ (n : Nat), ∀ (v1_6 : Int32) (c_this_place_6 : Nat → Int32) (H : Heap) (locs : List Loc) (ls : Array Slot), Lp2 (b_X7_firstPlace_6 kx_6) n v1_6 c_this_place_6 → HW (dC, dI) A s.heap [(a_this, .inr (6, [.int c_this_columns, .int c_this_rows, .int c_this_aims, .ref a_this_lows, .ref a_this_highs, .ref a_this_rights, .ref a_this_terms, .ref a_this_costs, .ref a_this_froms, .ref a_this_tos, .int c_this_gone, .int c_this_plans, .ref a_this_planPoint, .ref a_this_planScore, .int c_this_front, .ref a_this_frontPlan, .ref a_this_frontTies, .int c_this_picks, .ref a_this_pick, .int c_this_hasClimbed, .ref a_this_end, .ref a_this_point, .ref a_this_score, .ref a_this_by, .ref a_this_four, .ref a_this_isNear, .ref a_this_number, .ref a_this_numbers, .ref a_this_place, .ref a_this_was])), (a_this_frontPlan, .inl (cI, 2000, .inl c_this_frontPlan)), (a_this_number, .inl (cI, 52, .inl c_this_number_1)), (a_this_numbers, .inl (cI, 4, .inl c_this_numbers_1)), (a_this_place, .inl (cI, 4, .inl c_this_place_6)), (a_this_planScore, .inl (cI, 8000, .inl c_this_planScore))] H locs → lv_has ls 2 [(0, .ref a_this), (1, .int v1_6)] → W p l e rm_X7_firstPlace s m args below meth c H locs 0 0 Q (F0 m 6 ls []) := by
    intro n
    induction n with
    | zero => intro v1_6 c_this_place_6 H locs ls hw; exact False.elim hw
    | succ n ih_6 =>
      intro v1_6 c_this_place_6 H locs ls hw hG hl
      obtain ⟨w_6, hw_6, hw⟩ : ∃ w' : Int32 → (Nat → Int32) → Prop, (∀ v1_6 c_this_place_6, w' v1_6 c_this_place_6 → Lp2 (b_X7_firstPlace_6 kx_6) n v1_6 c_this_place_6) ∧ b_X7_firstPlace_6 kx_6 w' v1_6 c_this_place_6 := ⟨_, fun _ _ h => h, hw⟩
      replace ih_6 : ∀ (v1_6 : Int32) (c_this_place_6 : Nat → Int32) (H : Heap) (locs : List Loc) (ls : Array Slot), w_6 v1_6 c_this_place_6 → HW (dC, dI) A s.heap [(a_this, .inr (6, [.int c_this_columns, .int c_this_rows, .int c_this_aims, .ref a_this_lows, .ref a_this_highs, .ref a_this_rights, .ref a_this_terms, .ref a_this_costs, .ref a_this_froms, .ref a_this_tos, .int c_this_gone, .int c_this_plans, .ref a_this_planPoint, .ref a_this_planScore, .int c_this_front, .ref a_this_frontPlan, .ref a_this_frontTies, .int c_this_picks, .ref a_this_pick, .int c_this_hasClimbed, .ref a_this_end, .ref a_this_point, .ref a_this_score, .ref a_this_by, .ref a_this_four, .ref a_this_isNear, .ref a_this_number, .ref a_this_numbers, .ref a_this_place, .ref a_this_was])), (a_this_frontPlan, .inl (cI, 2000, .inl c_this_frontPlan)), (a_this_number, .inl (cI, 52, .inl c_this_number_1)), (a_this_numbers, .inl (cI, 4, .inl c_this_numbers_1)), (a_this_place, .inl (cI, 4, .inl c_this_place_6)), (a_this_planScore, .inl (cI, 8000, .inl c_this_planScore))] H locs → lv_has ls 2 [(0, .ref a_this), (1, .int v1_6)] → W p l e rm_X7_firstPlace s m args below meth c H locs 0 0 Q (F0 m 6 ls []) := fun v1_6 c_this_place_6 H locs ls h => ih_6 v1_6 c_this_place_6 H locs ls (hw_6 _ _ h)
      unfold b_X7_firstPlace_6 at hw
      refine lv_iload_n K.1 K.2.1 dX7_firstPlace_6 rfl (lv_at hl 1 rfl) ?_
      refine lv_iconst (v := 4) K.1 K.2.1 dX7_firstPlace_7 (by decide) ?_
      refine lv_icmp_ge (tgt := 24) K.1 K.2.1 dX7_firstPlace_8 (by decide) (fun q_8 => ?_) (fun q_8 => ?_)
      · have hw := hw.1 q_8
        exact hX_6 c_this_place_6 H locs ls hw hG (lv_sub hl [] rfl)
      · have hw := hw.2 q_8
        refine lv_aload_n K.1 K.2.1 dX7_firstPlace_11 rfl (lv_at hl 0 rfl) ?_
        refine g_get (v := .ref a_this_place) K hG hin_RX7 0 rfl rfl 28 (by decide) (K.2.2.2.2.1 (.fieldLink RX7 72 "AimFrontsModel" "place" "[I") (by decide +kernel)) rfl rfl dX7_firstPlace_12 ?_
        refine lv_iload_n K.1 K.2.1 dX7_firstPlace_15 rfl (lv_at hl 1 rfl) ?_
        refine lv_iconst (v := 0) K.1 K.2.1 dX7_firstPlace_16 (by decide) ?_
        obtain ⟨h_17, hw⟩ := hw
        refine g_iast (ws' := [(a_this, .inr (6, [.int c_this_columns, .int c_this_rows, .int c_this_aims, .ref a_this_lows, .ref a_this_highs, .ref a_this_rights, .ref a_this_terms, .ref a_this_costs, .ref a_this_froms, .ref a_this_tos, .int c_this_gone, .int c_this_plans, .ref a_this_planPoint, .ref a_this_planScore, .int c_this_front, .ref a_this_frontPlan, .ref a_this_frontTies, .int c_this_picks, .ref a_this_pick, .int c_this_hasClimbed, .ref a_this_end, .ref a_this_point, .ref a_this_score, .ref a_this_by, .ref a_this_four, .ref a_this_isNear, .ref a_this_number, .ref a_this_numbers, .ref a_this_place, .ref a_this_was])), (a_this_frontPlan, .inl (cI, 2000, .inl c_this_frontPlan)), (a_this_number, .inl (cI, 52, .inl c_this_number_1)), (a_this_numbers, .inl (cI, 4, .inl c_this_numbers_1)), (a_this_place, .inl (cI, 4, .inl (upd c_this_place_6 (v1_6).toNatClampNeg (0 : Int32)))), (a_this_planScore, .inl (cI, 8000, .inl c_this_planScore))]) K hG 4 rfl h_17 rfl dX7_firstPlace_17 (fun H locs hG => ?_)
        refine lv_iinc (v := (v1_6 + (1 : Int32))) (lv' := [(1, .int (v1_6 + (1 : Int32))), (0, .ref a_this)]) K.1 K.2.1 dX7_firstPlace_18 hl (k := 1) rfl rfl (by decide) rfl (fun ls hl => ?_)
        refine lv_goto (tgt := 6) K.1 K.2.1 dX7_firstPlace_21 (by decide) ?_
        exact ih_6 (v1_6 + (1 : Int32)) (upd c_this_place_6 (v1_6).toNatClampNeg (0 : Int32)) H locs ls hw hG (lv_sub hl [1, 0] rfl)
  exact hL_6 n_6 (0 : Int32) c_this_place H locs ls hw hG (lv_sub hl [1, 0] rfl)
abbrev rm_X7_goBoxes : Room := { frames := 5, cells := 0, slots := 0, locals := 113 }
set_option maxHeartbeats 4000000 in
set_option maxRecDepth 100000 in
theorem k_X7_goBoxes (l : Launch) (dC : Nat → ClassId) (dI : Nat → Nat → Nat) (cI cJ cZ cG : ClassId) (sz : Nat) (a_this a_this_lows a_this_highs a_this_rights a_this_terms a_this_costs a_this_froms a_this_tos a_this_planPoint a_this_planScore a_this_frontPlan a_this_frontTies a_this_pick a_this_end a_this_point a_this_score a_this_by a_this_four a_this_isNear a_this_number a_this_numbers a_this_place a_this_was : Nat) (c_this_aims : Int32) (c_this_columns : Int32) (c_this_front : Int32) (c_this_frontPlan : Nat → Int32) (c_this_gone : Int32) (c_this_hasClimbed : Int32) (c_this_number : Nat → Int32) (c_this_numbers : Nat → Int32) (c_this_picks : Int32) (c_this_place : Nat → Int32) (c_this_planScore : Nat → Int32) (c_this_plans : Int32) (c_this_rows : Int32) (x1 : Int32) (post : Int32 → (Nat → Int32) → (Nat → Int32) → (Nat → Int32) → Prop) (hw : wp_X7_goBoxes c_this_aims c_this_front c_this_frontPlan c_this_number c_this_numbers c_this_place c_this_planScore x1 post) : MetI l yX7_goBoxes wsX7_goBoxes rm_X7_goBoxes (dC, dI) cI cJ cZ cG [.ref a_this, .int x1] sz [(a_this, .inr (6, [.int c_this_columns, .int c_this_rows, .int c_this_aims, .ref a_this_lows, .ref a_this_highs, .ref a_this_rights, .ref a_this_terms, .ref a_this_costs, .ref a_this_froms, .ref a_this_tos, .int c_this_gone, .int c_this_plans, .ref a_this_planPoint, .ref a_this_planScore, .int c_this_front, .ref a_this_frontPlan, .ref a_this_frontTies, .int c_this_picks, .ref a_this_pick, .int c_this_hasClimbed, .ref a_this_end, .ref a_this_point, .ref a_this_score, .ref a_this_by, .ref a_this_four, .ref a_this_isNear, .ref a_this_number, .ref a_this_numbers, .ref a_this_place, .ref a_this_was])), (a_this_frontPlan, .inl (cI, 2000, .inl c_this_frontPlan)), (a_this_number, .inl (cI, 52, .inl c_this_number)), (a_this_numbers, .inl (cI, 4, .inl c_this_numbers)), (a_this_place, .inl (cI, 4, .inl c_this_place)), (a_this_planScore, .inl (cI, 8000, .inl c_this_planScore))] (fun (r : Int32) (u : (Nat → Int32) × (Nat → Int32) × (Nat → Int32)) => post r (u.1) (u.2.1) (u.2.2)) (fun u => [(a_this, .inr (6, [.int c_this_columns, .int c_this_rows, .int c_this_aims, .ref a_this_lows, .ref a_this_highs, .ref a_this_rights, .ref a_this_terms, .ref a_this_costs, .ref a_this_froms, .ref a_this_tos, .int c_this_gone, .int c_this_plans, .ref a_this_planPoint, .ref a_this_planScore, .int c_this_front, .ref a_this_frontPlan, .ref a_this_frontTies, .int c_this_picks, .ref a_this_pick, .int c_this_hasClimbed, .ref a_this_end, .ref a_this_point, .ref a_this_score, .ref a_this_by, .ref a_this_four, .ref a_this_isNear, .ref a_this_number, .ref a_this_numbers, .ref a_this_place, .ref a_this_was])), (a_this_frontPlan, .inl (cI, 2000, .inl c_this_frontPlan)), (a_this_number, .inl (cI, 52, .inl (u.1))), (a_this_numbers, .inl (cI, 4, .inl (u.2.1))), (a_this_place, .inl (cI, 4, .inl (u.2.2))), (a_this_planScore, .inl (cI, 8000, .inl c_this_planScore))]) := by
  refine met_i (ty := .int) (Or.inl rfl) (cc := cX7_goBoxes) (maxL := 4) (by decide) rfl (Nat.le_of_ble_eq_true rfl) ?_
  intro p e s m args below meth c A Q H locs ls K hG hl hret
  have hl : lv_has ls 4 [(0, .ref a_this), (1, .int x1)] := hl
  have hin_RX7 : ∀ w ∈ u_ws RX7 TX7 30, w ∈ wsX7_goBoxes := by decide +kernel
  unfold wp_X7_goBoxes at hw
  refine lv_aload_n K.1 K.2.1 dX7_goBoxes_0 rfl (lv_at hl 0 rfl) ?_
  refine g_nv (w2 := (fun u => [(a_this, .inr (6, [.int c_this_columns, .int c_this_rows, .int c_this_aims, .ref a_this_lows, .ref a_this_highs, .ref a_this_rights, .ref a_this_terms, .ref a_this_costs, .ref a_this_froms, .ref a_this_tos, .int c_this_gone, .int c_this_plans, .ref a_this_planPoint, .ref a_this_planScore, .int c_this_front, .ref a_this_frontPlan, .ref a_this_frontTies, .int c_this_picks, .ref a_this_pick, .int c_this_hasClimbed, .ref a_this_end, .ref a_this_point, .ref a_this_score, .ref a_this_by, .ref a_this_four, .ref a_this_isNear, .ref a_this_number, .ref a_this_numbers, .ref a_this_place, .ref a_this_was])), (a_this_frontPlan, .inl (cI, 2000, .inl c_this_frontPlan)), (a_this_number, .inl (cI, 52, .inl (u.1))), (a_this_numbers, .inl (cI, 4, .inl (u.2.1))), (a_this_place, .inl (cI, 4, .inl (u.2.2))), (a_this_planScore, .inl (cI, 8000, .inl c_this_planScore))])) (wr := []) K hG [0, 1, 2, 3, 4, 5] [] 6 rfl (g_runV (As := []) (rest := []) K hG hl [0, 1, 2, 3, 4, 5] rfl rfl 0 rfl rfl (k_X7_firstPlace l dC dI cI cJ cZ cG H.size a_this a_this_lows a_this_highs a_this_rights a_this_terms a_this_costs a_this_froms a_this_tos a_this_planPoint a_this_planScore a_this_frontPlan a_this_frontTies a_this_pick a_this_end a_this_point a_this_score a_this_by a_this_four a_this_isNear a_this_number a_this_numbers a_this_place a_this_was c_this_aims c_this_columns c_this_front c_this_frontPlan c_this_gone c_this_hasClimbed c_this_number c_this_numbers c_this_picks c_this_place c_this_planScore c_this_plans c_this_rows _ hw) (cwV 0 K.2.2.2.2.1 gX7_goBoxes_X7_firstPlace rfl rfl rfl (by decide +kernel) ⟨by decide, by decide⟩) rfl rfl (Nat.le_of_ble_eq_true rfl) ⟨Nat.zero_le _, Nat.zero_le _⟩ dX7_goBoxes_1) (fun _ => rfl) (fun _ => rfl) rfl (fun _ => rfl) (fun _ => rfl) (by decide) (by decide) (by decide) (fun u H locs hw hG => ?_)
  obtain ⟨c_this_number_1, c_this_numbers_1, c_this_place_1⟩ := u
  have hG : HW (dC, dI) A s.heap [(a_this, .inr (6, [.int c_this_columns, .int c_this_rows, .int c_this_aims, .ref a_this_lows, .ref a_this_highs, .ref a_this_rights, .ref a_this_terms, .ref a_this_costs, .ref a_this_froms, .ref a_this_tos, .int c_this_gone, .int c_this_plans, .ref a_this_planPoint, .ref a_this_planScore, .int c_this_front, .ref a_this_frontPlan, .ref a_this_frontTies, .int c_this_picks, .ref a_this_pick, .int c_this_hasClimbed, .ref a_this_end, .ref a_this_point, .ref a_this_score, .ref a_this_by, .ref a_this_four, .ref a_this_isNear, .ref a_this_number, .ref a_this_numbers, .ref a_this_place, .ref a_this_was])), (a_this_frontPlan, .inl (cI, 2000, .inl c_this_frontPlan)), (a_this_number, .inl (cI, 52, .inl c_this_number_1)), (a_this_numbers, .inl (cI, 4, .inl c_this_numbers_1)), (a_this_place, .inl (cI, 4, .inl c_this_place_1)), (a_this_planScore, .inl (cI, 8000, .inl c_this_planScore))] H locs := hG
  refine lv_iconst (v := 0) K.1 K.2.1 dX7_goBoxes_4 (by decide) ?_
  refine lv_istore_n (lv' := [(2, .int (0 : Int32)), (0, .ref a_this), (1, .int x1)]) K.1 K.2.1 dX7_goBoxes_5 rfl hl (by decide) rfl (fun ls hl => ?_)
  refine lv_iconst (v := 1) K.1 K.2.1 dX7_goBoxes_6 (by decide) ?_
  refine lv_istore_n (lv' := [(3, .int (1 : Int32)), (2, .int (0 : Int32)), (0, .ref a_this), (1, .int x1)]) K.1 K.2.1 dX7_goBoxes_7 rfl hl (by decide) rfl (fun ls hl => ?_)
  obtain ⟨kx_8, hkx_8, n_8, hw⟩ := Lx2_3_abs hw
  have hX_8 : ∀ (v2_8e : Int32) (c_this_place_8e : Nat → Int32) (H : Heap) (locs : List Loc) (ls : Array Slot), kx_8 v2_8e c_this_place_8e → HW (dC, dI) A s.heap [(a_this, .inr (6, [.int c_this_columns, .int c_this_rows, .int c_this_aims, .ref a_this_lows, .ref a_this_highs, .ref a_this_rights, .ref a_this_terms, .ref a_this_costs, .ref a_this_froms, .ref a_this_tos, .int c_this_gone, .int c_this_plans, .ref a_this_planPoint, .ref a_this_planScore, .int c_this_front, .ref a_this_frontPlan, .ref a_this_frontTies, .int c_this_picks, .ref a_this_pick, .int c_this_hasClimbed, .ref a_this_end, .ref a_this_point, .ref a_this_score, .ref a_this_by, .ref a_this_four, .ref a_this_isNear, .ref a_this_number, .ref a_this_numbers, .ref a_this_place, .ref a_this_was])), (a_this_frontPlan, .inl (cI, 2000, .inl c_this_frontPlan)), (a_this_number, .inl (cI, 52, .inl c_this_number_1)), (a_this_numbers, .inl (cI, 4, .inl c_this_numbers_1)), (a_this_place, .inl (cI, 4, .inl c_this_place_8e)), (a_this_planScore, .inl (cI, 8000, .inl c_this_planScore))] H locs → lv_has ls 4 [(2, .int v2_8e)] → W p l e rm_X7_goBoxes s m args below meth c H locs 0 0 Q (F0 m 49 ls []) := by
    intro v2_8e c_this_place_8e H locs ls hw hG hl
    have hw := hkx_8 _ _ hw
    refine lv_iload_n K.1 K.2.1 dX7_goBoxes_49 rfl (lv_at hl 0 rfl) ?_
    exact hret v2_8e (c_this_number_1, c_this_numbers_1, c_this_place_8e) H locs _ ls dX7_goBoxes_50 rfl hw hG
  have hL_8 : ∀ (n : Nat), ∀ (v2_8 : Int32) (v3_8 : Int32) (c_this_place_8 : Nat → Int32) (H : Heap) (locs : List Loc) (ls : Array Slot), Lp3 (b_X7_goBoxes_8 c_this_aims c_this_front c_this_frontPlan c_this_planScore x1 c_this_number_1 c_this_numbers_1 kx_8) n v2_8 v3_8 c_this_place_8 → HW (dC, dI) A s.heap [(a_this, .inr (6, [.int c_this_columns, .int c_this_rows, .int c_this_aims, .ref a_this_lows, .ref a_this_highs, .ref a_this_rights, .ref a_this_terms, .ref a_this_costs, .ref a_this_froms, .ref a_this_tos, .int c_this_gone, .int c_this_plans, .ref a_this_planPoint, .ref a_this_planScore, .int c_this_front, .ref a_this_frontPlan, .ref a_this_frontTies, .int c_this_picks, .ref a_this_pick, .int c_this_hasClimbed, .ref a_this_end, .ref a_this_point, .ref a_this_score, .ref a_this_by, .ref a_this_four, .ref a_this_isNear, .ref a_this_number, .ref a_this_numbers, .ref a_this_place, .ref a_this_was])), (a_this_frontPlan, .inl (cI, 2000, .inl c_this_frontPlan)), (a_this_number, .inl (cI, 52, .inl c_this_number_1)), (a_this_numbers, .inl (cI, 4, .inl c_this_numbers_1)), (a_this_place, .inl (cI, 4, .inl c_this_place_8)), (a_this_planScore, .inl (cI, 8000, .inl c_this_planScore))] H locs → lv_has ls 4 [(0, .ref a_this), (1, .int x1), (2, .int v2_8), (3, .int v3_8)] → W p l e rm_X7_goBoxes s m args below meth c H locs 0 0 Q (F0 m 8 ls []) := by
    intro n
    induction n with
    | zero => intro v2_8 v3_8 c_this_place_8 H locs ls hw; exact False.elim hw
    | succ n ih_8 =>
      intro v2_8 v3_8 c_this_place_8 H locs ls hw hG hl
      obtain ⟨w_8, hw_8, hw⟩ : ∃ w' : Int32 → Int32 → (Nat → Int32) → Prop, (∀ v2_8 v3_8 c_this_place_8, w' v2_8 v3_8 c_this_place_8 → Lp3 (b_X7_goBoxes_8 c_this_aims c_this_front c_this_frontPlan c_this_planScore x1 c_this_number_1 c_this_numbers_1 kx_8) n v2_8 v3_8 c_this_place_8) ∧ b_X7_goBoxes_8 c_this_aims c_this_front c_this_frontPlan c_this_planScore x1 c_this_number_1 c_this_numbers_1 kx_8 w' v2_8 v3_8 c_this_place_8 := ⟨_, fun _ _ _ h => h, hw⟩
      replace ih_8 : ∀ (v2_8 : Int32) (v3_8 : Int32) (c_this_place_8 : Nat → Int32) (H : Heap) (locs : List Loc) (ls : Array Slot), w_8 v2_8 v3_8 c_this_place_8 → HW (dC, dI) A s.heap [(a_this, .inr (6, [.int c_this_columns, .int c_this_rows, .int c_this_aims, .ref a_this_lows, .ref a_this_highs, .ref a_this_rights, .ref a_this_terms, .ref a_this_costs, .ref a_this_froms, .ref a_this_tos, .int c_this_gone, .int c_this_plans, .ref a_this_planPoint, .ref a_this_planScore, .int c_this_front, .ref a_this_frontPlan, .ref a_this_frontTies, .int c_this_picks, .ref a_this_pick, .int c_this_hasClimbed, .ref a_this_end, .ref a_this_point, .ref a_this_score, .ref a_this_by, .ref a_this_four, .ref a_this_isNear, .ref a_this_number, .ref a_this_numbers, .ref a_this_place, .ref a_this_was])), (a_this_frontPlan, .inl (cI, 2000, .inl c_this_frontPlan)), (a_this_number, .inl (cI, 52, .inl c_this_number_1)), (a_this_numbers, .inl (cI, 4, .inl c_this_numbers_1)), (a_this_place, .inl (cI, 4, .inl c_this_place_8)), (a_this_planScore, .inl (cI, 8000, .inl c_this_planScore))] H locs → lv_has ls 4 [(0, .ref a_this), (1, .int x1), (2, .int v2_8), (3, .int v3_8)] → W p l e rm_X7_goBoxes s m args below meth c H locs 0 0 Q (F0 m 8 ls []) := fun v2_8 v3_8 c_this_place_8 H locs ls h => ih_8 v2_8 v3_8 c_this_place_8 H locs ls (hw_8 _ _ _ h)
      unfold b_X7_goBoxes_8 at hw
      refine lv_iload_n K.1 K.2.1 dX7_goBoxes_8 rfl (lv_at hl 3 rfl) ?_
      refine lv_if_eq (tgt := 49) K.1 K.2.1 dX7_goBoxes_9 (by decide) (fun q_9 => ?_) (fun q_9 => ?_)
      · have hw := hw.1 q_9
        exact hX_8 v2_8 c_this_place_8 H locs ls hw hG (lv_sub hl [2] rfl)
      · have hw := hw.2 q_9
        refine lv_iload_n K.1 K.2.1 dX7_goBoxes_12 rfl (lv_at hl 2 rfl) ?_
        refine lv_aload_n K.1 K.2.1 dX7_goBoxes_13 rfl (lv_at hl 0 rfl) ?_
        refine g_ri K hG [0, 1, 2, 3, 4, 5] rfl (g_runV (As := []) (rest := [.int v2_8]) K hG hl [0, 1, 2, 3, 4, 5] rfl rfl 0 rfl rfl (k_X7_isBox l dC dI cI cJ cZ cG H.size a_this a_this_lows a_this_highs a_this_rights a_this_terms a_this_costs a_this_froms a_this_tos a_this_planPoint a_this_planScore a_this_frontPlan a_this_frontTies a_this_pick a_this_end a_this_point a_this_score a_this_by a_this_four a_this_isNear a_this_number a_this_numbers a_this_place a_this_was c_this_aims c_this_columns c_this_front c_this_frontPlan c_this_gone c_this_hasClimbed c_this_number_1 c_this_numbers_1 c_this_picks c_this_place_8 c_this_planScore c_this_plans c_this_rows _ hw) (cwV 0 K.2.2.2.2.1 gX7_goBoxes_X7_isBox rfl rfl rfl (by decide +kernel) ⟨by decide, by decide⟩) rfl rfl (Nat.le_of_ble_eq_true rfl) ⟨Nat.zero_le _, Nat.zero_le _⟩ dX7_goBoxes_14) (fun r_14 H locs hw hG => ?_)
        obtain ⟨k_j25, hk_j25, hw⟩ := jn1_abs hw
        have hJ_j25 : ∀ (s1_j25 : Int32) (H : Heap) (locs : List Loc) (ls : Array Slot), k_j25 s1_j25 → HW (dC, dI) A s.heap [(a_this, .inr (6, [.int c_this_columns, .int c_this_rows, .int c_this_aims, .ref a_this_lows, .ref a_this_highs, .ref a_this_rights, .ref a_this_terms, .ref a_this_costs, .ref a_this_froms, .ref a_this_tos, .int c_this_gone, .int c_this_plans, .ref a_this_planPoint, .ref a_this_planScore, .int c_this_front, .ref a_this_frontPlan, .ref a_this_frontTies, .int c_this_picks, .ref a_this_pick, .int c_this_hasClimbed, .ref a_this_end, .ref a_this_point, .ref a_this_score, .ref a_this_by, .ref a_this_four, .ref a_this_isNear, .ref a_this_number, .ref a_this_numbers, .ref a_this_place, .ref a_this_was])), (a_this_frontPlan, .inl (cI, 2000, .inl c_this_frontPlan)), (a_this_number, .inl (cI, 52, .inl c_this_number_1)), (a_this_numbers, .inl (cI, 4, .inl c_this_numbers_1)), (a_this_place, .inl (cI, 4, .inl c_this_place_8)), (a_this_planScore, .inl (cI, 8000, .inl c_this_planScore))] H locs → lv_has ls 4 [(0, .ref a_this), (1, .int x1)] → W p l e rm_X7_goBoxes s m args below meth c H locs 0 0 Q (F0 m 25 ls [.int s1_j25, .int v2_8]) := by
          intro s1_j25 H locs ls hw hG hl
          have hw := hk_j25 _ hw
          refine lv_iadd K.1 K.2.1 dX7_goBoxes_25 ?_
          refine lv_istore_n (lv' := [(2, .int (v2_8 + s1_j25)), (0, .ref a_this), (1, .int x1)]) K.1 K.2.1 dX7_goBoxes_26 rfl hl (by decide) rfl (fun ls hl => ?_)
          refine lv_iload_n K.1 K.2.1 dX7_goBoxes_27 rfl (lv_at hl 0 rfl) ?_
          refine lv_iload_n K.1 K.2.1 dX7_goBoxes_28 rfl (lv_at hl 2 rfl) ?_
          refine lv_icmp_gt (tgt := 44) K.1 K.2.1 dX7_goBoxes_29 (by decide) (fun q_29 => ?_) (fun q_29 => ?_)
          · have hw := hw.1 q_29
            refine lv_iconst (v := 0) K.1 K.2.1 dX7_goBoxes_44 (by decide) ?_
            refine lv_istore_n (lv' := [(3, .int (0 : Int32)), (2, .int (v2_8 + s1_j25)), (0, .ref a_this), (1, .int x1)]) K.1 K.2.1 dX7_goBoxes_45 rfl hl (by decide) rfl (fun ls hl => ?_)
            refine lv_goto (tgt := 8) K.1 K.2.1 dX7_goBoxes_46 (by decide) ?_
            exact ih_8 (v2_8 + s1_j25) (0 : Int32) c_this_place_8 H locs ls hw hG (lv_sub hl [2, 3, 1, 0] rfl)
          · have hw := hw.2 q_29
            refine lv_aload_n K.1 K.2.1 dX7_goBoxes_32 rfl (lv_at hl 1 rfl) ?_
            refine lv_iconst (v := 0) K.1 K.2.1 dX7_goBoxes_33 (by decide) ?_
            refine g_ni (w2 := (fun u => [(a_this, .inr (6, [.int c_this_columns, .int c_this_rows, .int c_this_aims, .ref a_this_lows, .ref a_this_highs, .ref a_this_rights, .ref a_this_terms, .ref a_this_costs, .ref a_this_froms, .ref a_this_tos, .int c_this_gone, .int c_this_plans, .ref a_this_planPoint, .ref a_this_planScore, .int c_this_front, .ref a_this_frontPlan, .ref a_this_frontTies, .int c_this_picks, .ref a_this_pick, .int c_this_hasClimbed, .ref a_this_end, .ref a_this_point, .ref a_this_score, .ref a_this_by, .ref a_this_four, .ref a_this_isNear, .ref a_this_number, .ref a_this_numbers, .ref a_this_place, .ref a_this_was])), (a_this_frontPlan, .inl (cI, 2000, .inl c_this_frontPlan)), (a_this_number, .inl (cI, 52, .inl c_this_number_1)), (a_this_numbers, .inl (cI, 4, .inl c_this_numbers_1)), (a_this_place, .inl (cI, 4, .inl u)), (a_this_planScore, .inl (cI, 8000, .inl c_this_planScore))])) (wr := [(a_this_frontPlan, .inl (cI, 2000, .inl c_this_frontPlan)), (a_this_number, .inl (cI, 52, .inl c_this_number_1)), (a_this_planScore, .inl (cI, 8000, .inl c_this_planScore))]) K hG [0, 3, 4] [1, 2, 5] 6 rfl (g_runV (As := [.int (0 : Int32)]) (rest := []) K hG hl [0, 3, 4] rfl rfl 0 rfl rfl (k_X7_nextPlace l dC dI cI cJ cZ cG H.size a_this a_this_lows a_this_highs a_this_rights a_this_terms a_this_costs a_this_froms a_this_tos a_this_planPoint a_this_planScore a_this_frontPlan a_this_frontTies a_this_pick a_this_end a_this_point a_this_score a_this_by a_this_four a_this_isNear a_this_number a_this_numbers a_this_place a_this_was c_this_aims c_this_columns c_this_front c_this_gone c_this_hasClimbed c_this_numbers_1 c_this_picks c_this_place_8 c_this_plans c_this_rows (0 : Int32) _ hw) (cwV 1 K.2.2.2.2.1 gX7_goBoxes_X7_nextPlace rfl rfl rfl (by decide +kernel) ⟨by decide, by decide⟩) rfl rfl (Nat.le_of_ble_eq_true rfl) ⟨Nat.zero_le _, Nat.zero_le _⟩ dX7_goBoxes_34) (fun _ => rfl) (fun _ => rfl) rfl (fun _ => rfl) (fun _ => rfl) (by decide) (by decide) (by decide) (fun r_34 u H locs hw hG => ?_)
            obtain ⟨c_this_place_34, rfl⟩ : ∃ z, z = u := ⟨_, rfl⟩
            have hG : HW (dC, dI) A s.heap [(a_this, .inr (6, [.int c_this_columns, .int c_this_rows, .int c_this_aims, .ref a_this_lows, .ref a_this_highs, .ref a_this_rights, .ref a_this_terms, .ref a_this_costs, .ref a_this_froms, .ref a_this_tos, .int c_this_gone, .int c_this_plans, .ref a_this_planPoint, .ref a_this_planScore, .int c_this_front, .ref a_this_frontPlan, .ref a_this_frontTies, .int c_this_picks, .ref a_this_pick, .int c_this_hasClimbed, .ref a_this_end, .ref a_this_point, .ref a_this_score, .ref a_this_by, .ref a_this_four, .ref a_this_isNear, .ref a_this_number, .ref a_this_numbers, .ref a_this_place, .ref a_this_was])), (a_this_frontPlan, .inl (cI, 2000, .inl c_this_frontPlan)), (a_this_number, .inl (cI, 52, .inl c_this_number_1)), (a_this_numbers, .inl (cI, 4, .inl c_this_numbers_1)), (a_this_place, .inl (cI, 4, .inl c_this_place_34)), (a_this_planScore, .inl (cI, 8000, .inl c_this_planScore))] H locs := hG
            refine lv_if_eq (tgt := 44) K.1 K.2.1 dX7_goBoxes_37 (by decide) (fun q_37 => ?_) (fun q_37 => ?_)
            · have hw := hw.1 q_37
              refine lv_iconst (v := 0) K.1 K.2.1 dX7_goBoxes_44 (by decide) ?_
              refine lv_istore_n (lv' := [(3, .int (0 : Int32)), (2, .int (v2_8 + s1_j25)), (0, .ref a_this), (1, .int x1)]) K.1 K.2.1 dX7_goBoxes_45 rfl hl (by decide) rfl (fun ls hl => ?_)
              refine lv_goto (tgt := 8) K.1 K.2.1 dX7_goBoxes_46 (by decide) ?_
              exact ih_8 (v2_8 + s1_j25) (0 : Int32) c_this_place_34 H locs ls hw hG (lv_sub hl [2, 3, 1, 0] rfl)
            · have hw := hw.2 q_37
              refine lv_iconst (v := 1) K.1 K.2.1 dX7_goBoxes_40 (by decide) ?_
              refine lv_goto (tgt := 45) K.1 K.2.1 dX7_goBoxes_41 (by decide) ?_
              refine lv_istore_n (lv' := [(3, .int (1 : Int32)), (2, .int (v2_8 + s1_j25)), (0, .ref a_this), (1, .int x1)]) K.1 K.2.1 dX7_goBoxes_45 rfl hl (by decide) rfl (fun ls hl => ?_)
              refine lv_goto (tgt := 8) K.1 K.2.1 dX7_goBoxes_46 (by decide) ?_
              exact ih_8 (v2_8 + s1_j25) (1 : Int32) c_this_place_34 H locs ls hw hG (lv_sub hl [2, 3, 1, 0] rfl)
        refine lv_if_eq (tgt := 24) K.1 K.2.1 dX7_goBoxes_17 (by decide) (fun q_17 => ?_) (fun q_17 => ?_)
        · have hw := hw.1 q_17
          refine lv_iconst (v := 0) K.1 K.2.1 dX7_goBoxes_24 (by decide) ?_
          exact hJ_j25 (0 : Int32) H locs ls hw hG (lv_sub hl [0, 1] rfl)
        · have hw := hw.2 q_17
          refine lv_iconst (v := 1) K.1 K.2.1 dX7_goBoxes_20 (by decide) ?_
          refine lv_goto (tgt := 25) K.1 K.2.1 dX7_goBoxes_21 (by decide) ?_
          exact hJ_j25 (1 : Int32) H locs ls hw hG (lv_sub hl [0, 1] rfl)
  exact hL_8 n_8 (0 : Int32) (1 : Int32) c_this_place_1 H locs ls hw hG (lv_sub hl [2, 3, 1, 0] rfl)
abbrev rm_X7_isFar : Room := { frames := 0, cells := 0, slots := 0, locals := 0 }
set_option maxHeartbeats 4000000 in
set_option maxRecDepth 100000 in
theorem k_X7_isFar (l : Launch) (dC : Nat → ClassId) (dI : Nat → Nat → Nat) (cI cJ cZ cG : ClassId) (sz : Nat) (a_this a_this_lows a_this_highs a_this_rights a_this_terms a_this_costs a_this_froms a_this_tos a_this_planPoint a_this_planScore a_this_frontPlan a_this_frontTies a_this_pick a_this_end a_this_point a_this_score a_this_by a_this_four a_this_isNear a_this_number a_this_numbers a_this_place a_this_was : Nat) (c_this_aims : Int32) (c_this_columns : Int32) (c_this_front : Int32) (c_this_gone : Int32) (c_this_hasClimbed : Int32) (c_this_picks : Int32) (c_this_plans : Int32) (c_this_rows : Int32) (post : Int32 → Prop) (hw : wp_X7_isFar c_this_front post) : MetI l yX7_isFar wsX7_isFar rm_X7_isFar (dC, dI) cI cJ cZ cG [.ref a_this] sz [(a_this, .inr (6, [.int c_this_columns, .int c_this_rows, .int c_this_aims, .ref a_this_lows, .ref a_this_highs, .ref a_this_rights, .ref a_this_terms, .ref a_this_costs, .ref a_this_froms, .ref a_this_tos, .int c_this_gone, .int c_this_plans, .ref a_this_planPoint, .ref a_this_planScore, .int c_this_front, .ref a_this_frontPlan, .ref a_this_frontTies, .int c_this_picks, .ref a_this_pick, .int c_this_hasClimbed, .ref a_this_end, .ref a_this_point, .ref a_this_score, .ref a_this_by, .ref a_this_four, .ref a_this_isNear, .ref a_this_number, .ref a_this_numbers, .ref a_this_place, .ref a_this_was]))] (fun (r : Int32) (u : Unit) => post r) (fun u => [(a_this, .inr (6, [.int c_this_columns, .int c_this_rows, .int c_this_aims, .ref a_this_lows, .ref a_this_highs, .ref a_this_rights, .ref a_this_terms, .ref a_this_costs, .ref a_this_froms, .ref a_this_tos, .int c_this_gone, .int c_this_plans, .ref a_this_planPoint, .ref a_this_planScore, .int c_this_front, .ref a_this_frontPlan, .ref a_this_frontTies, .int c_this_picks, .ref a_this_pick, .int c_this_hasClimbed, .ref a_this_end, .ref a_this_point, .ref a_this_score, .ref a_this_by, .ref a_this_four, .ref a_this_isNear, .ref a_this_number, .ref a_this_numbers, .ref a_this_place, .ref a_this_was]))]) := by
  refine met_i (ty := .boolean) (Or.inr rfl) (cc := cX7_isFar) (maxL := 1) (by decide) rfl (Nat.le_of_ble_eq_true rfl) ?_
  intro p e s m args below meth c A Q H locs ls K hG hl hret
  have hl : lv_has ls 1 [(0, .ref a_this)] := hl
  have hin_RX7 : ∀ w ∈ u_ws RX7 TX7 30, w ∈ wsX7_isFar := by decide +kernel
  unfold wp_X7_isFar at hw
  refine lv_aload_n K.1 K.2.1 dX7_isFar_0 rfl (lv_at hl 0 rfl) ?_
  refine g_get (v := .int c_this_front) K hG hin_RX7 0 rfl rfl 14 (by decide) (K.2.2.2.2.1 (.fieldLink RX7 98 "AimFrontsModel" "front" "I") (by decide +kernel)) rfl rfl dX7_isFar_1 ?_
  refine lv_if_eq (tgt := 16) K.1 K.2.1 dX7_isFar_4 (by decide) (fun q_4 => ?_) (fun q_4 => ?_)
  · have hw := hw.1 q_4
    refine lv_iconst (v := 1) K.1 K.2.1 dX7_isFar_16 (by decide) ?_
    refine lv_goto (tgt := 21) K.1 K.2.1 dX7_isFar_17 (by decide) ?_
    exact hret (1 : Int32) () H locs _ ls dX7_isFar_21 rfl hw hG
  · have hw := hw.2 q_4
    refine lv_aload_n K.1 K.2.1 dX7_isFar_7 rfl (lv_at hl 0 rfl) ?_
    refine g_get (v := .int c_this_front) K hG hin_RX7 0 rfl rfl 14 (by decide) (K.2.2.2.2.1 (.fieldLink RX7 98 "AimFrontsModel" "front" "I") (by decide +kernel)) rfl rfl dX7_isFar_8 ?_
    refine lv_bipush (v := 12) K.1 K.2.1 dX7_isFar_11 (by decide) ?_
    refine lv_icmp_le (tgt := 20) K.1 K.2.1 dX7_isFar_13 (by decide) (fun q_13 => ?_) (fun q_13 => ?_)
    · have hw := hw.1 q_13
      refine lv_iconst (v := 0) K.1 K.2.1 dX7_isFar_20 (by decide) ?_
      exact hret (0 : Int32) () H locs _ ls dX7_isFar_21 rfl hw hG
    · have hw := hw.2 q_13
      refine lv_iconst (v := 1) K.1 K.2.1 dX7_isFar_16 (by decide) ?_
      refine lv_goto (tgt := 21) K.1 K.2.1 dX7_isFar_17 (by decide) ?_
      exact hret (1 : Int32) () H locs _ ls dX7_isFar_21 rfl hw hG
abbrev rm_X7_boxes : Room := { frames := 6, cells := 0, slots := 0, locals := 136 }
set_option maxHeartbeats 4000000 in
set_option maxRecDepth 100000 in
theorem k_X7_boxes (l : Launch) (dC : Nat → ClassId) (dI : Nat → Nat → Nat) (cI cJ cZ cG : ClassId) (sz : Nat) (a_this a_this_lows a_this_highs a_this_rights a_this_terms a_this_costs a_this_froms a_this_tos a_this_planPoint a_this_planScore a_this_frontPlan a_this_frontTies a_this_pick a_this_end a_this_point a_this_score a_this_by a_this_four a_this_isNear a_this_number a_this_numbers a_this_place a_this_was : Nat) (c_this_aims : Int32) (c_this_columns : Int32) (c_this_front : Int32) (c_this_frontPlan : Nat → Int32) (c_this_gone : Int32) (c_this_hasClimbed : Int32) (c_this_number : Nat → Int32) (c_this_numbers : Nat → Int32) (c_this_picks : Int32) (c_this_place : Nat → Int32) (c_this_planScore : Nat → Int32) (c_this_plans : Int32) (c_this_rows : Int32) (post : Int32 → (Nat → Int32) → (Nat → Int32) → (Nat → Int32) → Prop) (hw : wp_X7_boxes c_this_aims c_this_front c_this_frontPlan c_this_number c_this_numbers c_this_place c_this_planScore post) : MetI l yX7_boxes wsX7_boxes rm_X7_boxes (dC, dI) cI cJ cZ cG [.ref a_this] sz [(a_this, .inr (6, [.int c_this_columns, .int c_this_rows, .int c_this_aims, .ref a_this_lows, .ref a_this_highs, .ref a_this_rights, .ref a_this_terms, .ref a_this_costs, .ref a_this_froms, .ref a_this_tos, .int c_this_gone, .int c_this_plans, .ref a_this_planPoint, .ref a_this_planScore, .int c_this_front, .ref a_this_frontPlan, .ref a_this_frontTies, .int c_this_picks, .ref a_this_pick, .int c_this_hasClimbed, .ref a_this_end, .ref a_this_point, .ref a_this_score, .ref a_this_by, .ref a_this_four, .ref a_this_isNear, .ref a_this_number, .ref a_this_numbers, .ref a_this_place, .ref a_this_was])), (a_this_frontPlan, .inl (cI, 2000, .inl c_this_frontPlan)), (a_this_number, .inl (cI, 52, .inl c_this_number)), (a_this_numbers, .inl (cI, 4, .inl c_this_numbers)), (a_this_place, .inl (cI, 4, .inl c_this_place)), (a_this_planScore, .inl (cI, 8000, .inl c_this_planScore))] (fun (r : Int32) (u : (Nat → Int32) × (Nat → Int32) × (Nat → Int32)) => post r (u.1) (u.2.1) (u.2.2)) (fun u => [(a_this, .inr (6, [.int c_this_columns, .int c_this_rows, .int c_this_aims, .ref a_this_lows, .ref a_this_highs, .ref a_this_rights, .ref a_this_terms, .ref a_this_costs, .ref a_this_froms, .ref a_this_tos, .int c_this_gone, .int c_this_plans, .ref a_this_planPoint, .ref a_this_planScore, .int c_this_front, .ref a_this_frontPlan, .ref a_this_frontTies, .int c_this_picks, .ref a_this_pick, .int c_this_hasClimbed, .ref a_this_end, .ref a_this_point, .ref a_this_score, .ref a_this_by, .ref a_this_four, .ref a_this_isNear, .ref a_this_number, .ref a_this_numbers, .ref a_this_place, .ref a_this_was])), (a_this_frontPlan, .inl (cI, 2000, .inl c_this_frontPlan)), (a_this_number, .inl (cI, 52, .inl (u.1))), (a_this_numbers, .inl (cI, 4, .inl (u.2.1))), (a_this_place, .inl (cI, 4, .inl (u.2.2))), (a_this_planScore, .inl (cI, 8000, .inl c_this_planScore))]) := by
  refine met_i (ty := .int) (Or.inl rfl) (cc := cX7_boxes) (maxL := 1) (by decide) rfl (Nat.le_of_ble_eq_true rfl) ?_
  intro p e s m args below meth c A Q H locs ls K hG hl hret
  have hl : lv_has ls 1 [(0, .ref a_this)] := hl
  have hin_RX7 : ∀ w ∈ u_ws RX7 TX7 30, w ∈ wsX7_boxes := by decide +kernel
  unfold wp_X7_boxes at hw
  refine lv_aload_n K.1 K.2.1 dX7_boxes_0 rfl (lv_at hl 0 rfl) ?_
  refine g_ri K hG [0] rfl (g_runV (As := []) (rest := []) K hG hl [0] rfl rfl 0 rfl rfl (k_X7_isFar l dC dI cI cJ cZ cG H.size a_this a_this_lows a_this_highs a_this_rights a_this_terms a_this_costs a_this_froms a_this_tos a_this_planPoint a_this_planScore a_this_frontPlan a_this_frontTies a_this_pick a_this_end a_this_point a_this_score a_this_by a_this_four a_this_isNear a_this_number a_this_numbers a_this_place a_this_was c_this_aims c_this_columns c_this_front c_this_gone c_this_hasClimbed c_this_picks c_this_plans c_this_rows _ hw) (cwV 0 K.2.2.2.2.1 gX7_boxes_X7_isFar rfl rfl rfl (by decide +kernel) ⟨by decide, by decide⟩) rfl rfl (Nat.le_of_ble_eq_true rfl) ⟨Nat.zero_le _, Nat.zero_le _⟩ dX7_boxes_1) (fun r_1 H locs hw hG => ?_)
  refine lv_if_eq (tgt := 12) K.1 K.2.1 dX7_boxes_4 (by decide) (fun q_4 => ?_) (fun q_4 => ?_)
  · have hw := hw.1 q_4
    refine lv_aload_n K.1 K.2.1 dX7_boxes_12 rfl (lv_at hl 0 rfl) ?_
    refine lv_ldc (v := 100000) K.1 K.2.1 K.2.2.2.1 (K.2.2.2.2.1 (.constant RX7 232 (100000)) (by decide +kernel)) dX7_boxes_13 ?_
    refine g_ni (w2 := (fun u => [(a_this, .inr (6, [.int c_this_columns, .int c_this_rows, .int c_this_aims, .ref a_this_lows, .ref a_this_highs, .ref a_this_rights, .ref a_this_terms, .ref a_this_costs, .ref a_this_froms, .ref a_this_tos, .int c_this_gone, .int c_this_plans, .ref a_this_planPoint, .ref a_this_planScore, .int c_this_front, .ref a_this_frontPlan, .ref a_this_frontTies, .int c_this_picks, .ref a_this_pick, .int c_this_hasClimbed, .ref a_this_end, .ref a_this_point, .ref a_this_score, .ref a_this_by, .ref a_this_four, .ref a_this_isNear, .ref a_this_number, .ref a_this_numbers, .ref a_this_place, .ref a_this_was])), (a_this_frontPlan, .inl (cI, 2000, .inl c_this_frontPlan)), (a_this_number, .inl (cI, 52, .inl (u.1))), (a_this_numbers, .inl (cI, 4, .inl (u.2.1))), (a_this_place, .inl (cI, 4, .inl (u.2.2))), (a_this_planScore, .inl (cI, 8000, .inl c_this_planScore))])) (wr := []) K hG [0, 1, 2, 3, 4, 5] [] 6 rfl (g_runV (As := [.int (100000 : Int32)]) (rest := []) K hG hl [0, 1, 2, 3, 4, 5] rfl rfl 0 rfl rfl (k_X7_goBoxes l dC dI cI cJ cZ cG H.size a_this a_this_lows a_this_highs a_this_rights a_this_terms a_this_costs a_this_froms a_this_tos a_this_planPoint a_this_planScore a_this_frontPlan a_this_frontTies a_this_pick a_this_end a_this_point a_this_score a_this_by a_this_four a_this_isNear a_this_number a_this_numbers a_this_place a_this_was c_this_aims c_this_columns c_this_front c_this_frontPlan c_this_gone c_this_hasClimbed c_this_number c_this_numbers c_this_picks c_this_place c_this_planScore c_this_plans c_this_rows (100000 : Int32) _ hw) (cwV 1 K.2.2.2.2.1 gX7_boxes_X7_goBoxes rfl rfl rfl (by decide +kernel) ⟨by decide, by decide⟩) rfl rfl (Nat.le_of_ble_eq_true rfl) ⟨Nat.zero_le _, Nat.zero_le _⟩ dX7_boxes_15) (fun _ => rfl) (fun _ => rfl) rfl (fun _ => rfl) (fun _ => rfl) (by decide) (by decide) (by decide) (fun r_15 u H locs hw hG => ?_)
    obtain ⟨c_this_number_15, c_this_numbers_15, c_this_place_15⟩ := u
    have hG : HW (dC, dI) A s.heap [(a_this, .inr (6, [.int c_this_columns, .int c_this_rows, .int c_this_aims, .ref a_this_lows, .ref a_this_highs, .ref a_this_rights, .ref a_this_terms, .ref a_this_costs, .ref a_this_froms, .ref a_this_tos, .int c_this_gone, .int c_this_plans, .ref a_this_planPoint, .ref a_this_planScore, .int c_this_front, .ref a_this_frontPlan, .ref a_this_frontTies, .int c_this_picks, .ref a_this_pick, .int c_this_hasClimbed, .ref a_this_end, .ref a_this_point, .ref a_this_score, .ref a_this_by, .ref a_this_four, .ref a_this_isNear, .ref a_this_number, .ref a_this_numbers, .ref a_this_place, .ref a_this_was])), (a_this_frontPlan, .inl (cI, 2000, .inl c_this_frontPlan)), (a_this_number, .inl (cI, 52, .inl c_this_number_15)), (a_this_numbers, .inl (cI, 4, .inl c_this_numbers_15)), (a_this_place, .inl (cI, 4, .inl c_this_place_15)), (a_this_planScore, .inl (cI, 8000, .inl c_this_planScore))] H locs := hG
    exact hret r_15 (c_this_number_15, c_this_numbers_15, c_this_place_15) H locs _ ls dX7_boxes_18 rfl hw hG
  · have hw := hw.2 q_4
    refine lv_ldc (v := -1000002) K.1 K.2.1 K.2.2.2.1 (K.2.2.2.2.1 (.constant RX7 161 (-1000002)) (by decide +kernel)) dX7_boxes_7 ?_
    refine lv_goto (tgt := 18) K.1 K.2.1 dX7_boxes_9 (by decide) ?_
    exact hret (-1000002 : Int32) (c_this_number, c_this_numbers, c_this_place) H locs _ ls dX7_boxes_18 rfl hw hG

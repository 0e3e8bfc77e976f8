abbrev rm_X6_ask : Room := { frames := 0, cells := 0, slots := 0, locals := 0 }
set_option maxHeartbeats 4000000 in
set_option maxRecDepth 100000 in
theorem k_X6_ask (l : Launch) (dC : Nat → ClassId) (dI : Nat → Nat → Nat) (cI cJ cZ cG : ClassId) (sz : Nat) (a_this a_this_task a_this_front a_this_cover a_this_behind a_this_climber a_this_numbers a_this_asked : Nat) (c_this_asked : Nat → Int32) (c_this_gone : Int32) (c_this_met : Int32) (x1 : Int32) (x2 : Int32) (x3 : Int32) (x4 : Int32) (post : (Nat → Int32) → Prop) (hw : wp_X6_ask c_this_asked x1 x2 x3 x4 post) : MetV l yX6_ask wsX6_ask rm_X6_ask (dC, dI) cI cJ cZ cG [.ref a_this, .int x1, .int x2, .int x3, .int x4] sz [(a_this, .inr (5, [.ref a_this_task, .ref a_this_front, .ref a_this_cover, .ref a_this_behind, .ref a_this_climber, .ref a_this_numbers, .ref a_this_asked, .int c_this_gone, .int c_this_met])), (a_this_asked, .inl (cI, 4, .inl c_this_asked))] (fun (u : (Nat → Int32)) => post u) (fun u => [(a_this, .inr (5, [.ref a_this_task, .ref a_this_front, .ref a_this_cover, .ref a_this_behind, .ref a_this_climber, .ref a_this_numbers, .ref a_this_asked, .int c_this_gone, .int c_this_met])), (a_this_asked, .inl (cI, 4, .inl u))]) := by
  refine met_v (cc := cX6_ask) (maxL := 5) (by decide) rfl (Nat.le_of_ble_eq_true rfl) ?_
  intro p e s m args below meth c A Q H locs ls K hG hl hret
  have hl : lv_has ls 5 [(0, .ref a_this), (1, .int x1), (2, .int x2), (3, .int x3), (4, .int x4)] := hl
  have hin_RX6 : ∀ w ∈ u_ws RX6 TX6 9, w ∈ wsX6_ask := by decide +kernel
  unfold wp_X6_ask at hw
  refine lv_aload_n K.1 K.2.1 dX6_ask_0 rfl (lv_at hl 0 rfl) ?_
  refine g_get (v := .ref a_this_asked) K hG hin_RX6 0 rfl rfl 6 (by decide) (K.2.2.2.2.1 (.fieldLink RX6 48 "AimFronts" "asked" "[I") (by decide +kernel)) rfl rfl dX6_ask_1 ?_
  refine lv_iconst (v := 0) K.1 K.2.1 dX6_ask_4 (by decide) ?_
  refine lv_iload_n K.1 K.2.1 dX6_ask_5 rfl (lv_at hl 1 rfl) ?_
  obtain ⟨h_6, hw⟩ := hw
  refine g_iast (ws' := [(a_this, .inr (5, [.ref a_this_task, .ref a_this_front, .ref a_this_cover, .ref a_this_behind, .ref a_this_climber, .ref a_this_numbers, .ref a_this_asked, .int c_this_gone, .int c_this_met])), (a_this_asked, .inl (cI, 4, .inl (upd c_this_asked ((0 : Int32)).toNatClampNeg x1)))]) K hG 1 rfl h_6 rfl dX6_ask_6 (fun H locs hG => ?_)
  refine lv_aload_n K.1 K.2.1 dX6_ask_7 rfl (lv_at hl 0 rfl) ?_
  refine g_get (v := .ref a_this_asked) K hG hin_RX6 0 rfl rfl 6 (by decide) (K.2.2.2.2.1 (.fieldLink RX6 48 "AimFronts" "asked" "[I") (by decide +kernel)) rfl rfl dX6_ask_8 ?_
  refine lv_iconst (v := 1) K.1 K.2.1 dX6_ask_11 (by decide) ?_
  refine lv_iload_n K.1 K.2.1 dX6_ask_12 rfl (lv_at hl 2 rfl) ?_
  obtain ⟨h_13, hw⟩ := hw
  refine g_iast (ws' := [(a_this, .inr (5, [.ref a_this_task, .ref a_this_front, .ref a_this_cover, .ref a_this_behind, .ref a_this_climber, .ref a_this_numbers, .ref a_this_asked, .int c_this_gone, .int c_this_met])), (a_this_asked, .inl (cI, 4, .inl (upd (upd c_this_asked ((0 : Int32)).toNatClampNeg x1) ((1 : Int32)).toNatClampNeg x2)))]) K hG 1 rfl h_13 rfl dX6_ask_13 (fun H locs hG => ?_)
  refine lv_aload_n K.1 K.2.1 dX6_ask_14 rfl (lv_at hl 0 rfl) ?_
  refine g_get (v := .ref a_this_asked) K hG hin_RX6 0 rfl rfl 6 (by decide) (K.2.2.2.2.1 (.fieldLink RX6 48 "AimFronts" "asked" "[I") (by decide +kernel)) rfl rfl dX6_ask_15 ?_
  refine lv_iconst (v := 2) K.1 K.2.1 dX6_ask_18 (by decide) ?_
  refine lv_iload_n K.1 K.2.1 dX6_ask_19 rfl (lv_at hl 3 rfl) ?_
  obtain ⟨h_20, hw⟩ := hw
  refine g_iast (ws' := [(a_this, .inr (5, [.ref a_this_task, .ref a_this_front, .ref a_this_cover, .ref a_this_behind, .ref a_this_climber, .ref a_this_numbers, .ref a_this_asked, .int c_this_gone, .int c_this_met])), (a_this_asked, .inl (cI, 4, .inl (upd (upd (upd c_this_asked ((0 : Int32)).toNatClampNeg x1) ((1 : Int32)).toNatClampNeg x2) ((2 : Int32)).toNatClampNeg x3)))]) K hG 1 rfl h_20 rfl dX6_ask_20 (fun H locs hG => ?_)
  refine lv_aload_n K.1 K.2.1 dX6_ask_21 rfl (lv_at hl 0 rfl) ?_
  refine g_get (v := .ref a_this_asked) K hG hin_RX6 0 rfl rfl 6 (by decide) (K.2.2.2.2.1 (.fieldLink RX6 48 "AimFronts" "asked" "[I") (by decide +kernel)) rfl rfl dX6_ask_22 ?_
  refine lv_iconst (v := 3) K.1 K.2.1 dX6_ask_25 (by decide) ?_
  refine lv_iload K.1 K.2.1 dX6_ask_26 (lv_at hl 4 rfl) ?_
  obtain ⟨h_28, hw⟩ := hw
  refine g_iast (ws' := [(a_this, .inr (5, [.ref a_this_task, .ref a_this_front, .ref a_this_cover, .ref a_this_behind, .ref a_this_climber, .ref a_this_numbers, .ref a_this_asked, .int c_this_gone, .int c_this_met])), (a_this_asked, .inl (cI, 4, .inl (upd (upd (upd (upd c_this_asked ((0 : Int32)).toNatClampNeg x1) ((1 : Int32)).toNatClampNeg x2) ((2 : Int32)).toNatClampNeg x3) ((3 : Int32)).toNatClampNeg x4)))]) K hG 1 rfl h_28 rfl dX6_ask_28 (fun H locs hG => ?_)
  exact hret (upd (upd (upd (upd c_this_asked ((0 : Int32)).toNatClampNeg x1) ((1 : Int32)).toNatClampNeg x2) ((2 : Int32)).toNatClampNeg x3) ((3 : Int32)).toNatClampNeg x4) H locs _ ls dX6_ask_29 hw hG
abbrev rm_X3_lightest : Room := { frames := 3, cells := 0, slots := 0, locals := 64 }
set_option maxHeartbeats 4000000 in
set_option maxRecDepth 100000 in
theorem k_X3_lightest (l : Launch) (dC : Nat → ClassId) (dI : Nat → Nat → Nat) (cI cJ cZ cG : ClassId) (sz : Nat) (a_p1 a_this a_this_scores a_this_points a_this_counts a_this_ideals a_this_scales : Nat) (c_p1 : Nat → Int32) (c_this_scores : Nat → Int64) (c_this_size : Int32) (x2 : Int32) (post : Int32 → Prop) (hw : wp_X3_lightest c_p1 c_this_scores c_this_size x2 post) : MetI l yX3_lightest wsX3_lightest rm_X3_lightest (dC, dI) cI cJ cZ cG [.ref a_this, .ref a_p1, .int x2] sz [(a_p1, .inl (cI, 4, .inl c_p1)), (a_this, .inr (3, [.ref a_this_scores, .ref a_this_points, .ref a_this_counts, .int c_this_size, .ref a_this_ideals, .ref a_this_scales])), (a_this_scores, .inl (cJ, 2000, .inr (.inl c_this_scores)))] (fun (r : Int32) (u : Unit) => post r) (fun u => [(a_p1, .inl (cI, 4, .inl c_p1)), (a_this, .inr (3, [.ref a_this_scores, .ref a_this_points, .ref a_this_counts, .int c_this_size, .ref a_this_ideals, .ref a_this_scales])), (a_this_scores, .inl (cJ, 2000, .inr (.inl c_this_scores)))]) := by
  refine met_i (ty := .int) (Or.inl rfl) (cc := cX3_lightest) (maxL := 8) (by decide) rfl (Nat.le_of_ble_eq_true rfl) ?_
  intro p e s m args below meth c A Q H locs ls K hG hl hret
  have hl : lv_has ls 8 [(0, .ref a_this), (1, .ref a_p1), (2, .int x2)] := hl
  have hin_RX3 : ∀ w ∈ u_ws RX3 TX3 6, w ∈ wsX3_lightest := by decide +kernel
  unfold wp_X3_lightest at hw
  refine lv_iconst (v := 0) K.1 K.2.1 dX3_lightest_0 (by decide) ?_
  refine lv_istore_n (lv' := [(3, .int (0 : Int32)), (0, .ref a_this), (1, .ref a_p1), (2, .int x2)]) K.1 K.2.1 dX3_lightest_1 rfl hl (by decide) rfl (fun ls hl => ?_)
  refine lv_ldc (v := 2147483647) K.1 K.2.1 K.2.2.2.1 (K.2.2.2.2.1 (.constant RX3 99 (2147483647)) (by decide +kernel)) dX3_lightest_2 ?_
  refine lv_istore (lv' := [(4, .int (2147483647 : Int32)), (3, .int (0 : Int32)), (0, .ref a_this), (1, .ref a_p1), (2, .int x2)]) K.1 K.2.1 dX3_lightest_4 hl (by decide) rfl (fun ls hl => ?_)
  refine lv_iconst (v := 0) K.1 K.2.1 dX3_lightest_6 (by decide) ?_
  refine lv_istore (lv' := [(5, .int (0 : Int32)), (4, .int (2147483647 : Int32)), (3, .int (0 : Int32)), (0, .ref a_this), (1, .ref a_p1), (2, .int x2)]) K.1 K.2.1 dX3_lightest_7 hl (by decide) rfl (fun ls hl => ?_)
  obtain ⟨kx_9, hkx_9, n_9, hw⟩ := Lx1_3_abs hw
  have hX_9 : ∀ (v3_9e : Int32) (H : Heap) (locs : List Loc) (ls : Array Slot), kx_9 v3_9e → HW (dC, dI) A s.heap [(a_p1, .inl (cI, 4, .inl c_p1)), (a_this, .inr (3, [.ref a_this_scores, .ref a_this_points, .ref a_this_counts, .int c_this_size, .ref a_this_ideals, .ref a_this_scales])), (a_this_scores, .inl (cJ, 2000, .inr (.inl c_this_scores)))] H locs → lv_has ls 8 [(3, .int v3_9e)] → W p l e rm_X3_lightest s m args below meth c H locs 0 0 Q (F0 m 74 ls []) := by
    intro v3_9e H locs ls hw hG hl
    have hw := hkx_9 _ hw
    refine lv_iload_n K.1 K.2.1 dX3_lightest_74 rfl (lv_at hl 0 rfl) ?_
    exact hret v3_9e () H locs _ ls dX3_lightest_75 rfl hw hG
  have hL_9 : ∀ (n : Nat), ∀ (v3_9 : Int32) (v4_9 : Int32) (v5_9 : Int32) (H : Heap) (locs : List Loc) (ls : Array Slot), Lp3 (b_X3_lightest_9 c_p1 c_this_size c_this_scores x2 kx_9) n v3_9 v4_9 v5_9 → HW (dC, dI) A s.heap [(a_p1, .inl (cI, 4, .inl c_p1)), (a_this, .inr (3, [.ref a_this_scores, .ref a_this_points, .ref a_this_counts, .int c_this_size, .ref a_this_ideals, .ref a_this_scales])), (a_this_scores, .inl (cJ, 2000, .inr (.inl c_this_scores)))] H locs → lv_has ls 8 [(0, .ref a_this), (1, .ref a_p1), (2, .int x2), (3, .int v3_9), (4, .int v4_9), (5, .int v5_9)] → W p l e rm_X3_lightest s m args below meth c H locs 0 0 Q (F0 m 9 ls []) := by
    intro n
    induction n with
    | zero => intro v3_9 v4_9 v5_9 H locs ls hw; exact False.elim hw
    | succ n ih_9 =>
      intro v3_9 v4_9 v5_9 H locs ls hw hG hl
      obtain ⟨w_9, hw_9, hw⟩ : ∃ w' : Int32 → Int32 → Int32 → Prop, (∀ v3_9 v4_9 v5_9, w' v3_9 v4_9 v5_9 → Lp3 (b_X3_lightest_9 c_p1 c_this_size c_this_scores x2 kx_9) n v3_9 v4_9 v5_9) ∧ b_X3_lightest_9 c_p1 c_this_size c_this_scores x2 kx_9 w' v3_9 v4_9 v5_9 := ⟨_, fun _ _ _ h => h, hw⟩
      replace ih_9 : ∀ (v3_9 : Int32) (v4_9 : Int32) (v5_9 : Int32) (H : Heap) (locs : List Loc) (ls : Array Slot), w_9 v3_9 v4_9 v5_9 → HW (dC, dI) A s.heap [(a_p1, .inl (cI, 4, .inl c_p1)), (a_this, .inr (3, [.ref a_this_scores, .ref a_this_points, .ref a_this_counts, .int c_this_size, .ref a_this_ideals, .ref a_this_scales])), (a_this_scores, .inl (cJ, 2000, .inr (.inl c_this_scores)))] H locs → lv_has ls 8 [(0, .ref a_this), (1, .ref a_p1), (2, .int x2), (3, .int v3_9), (4, .int v4_9), (5, .int v5_9)] → W p l e rm_X3_lightest s m args below meth c H locs 0 0 Q (F0 m 9 ls []) := fun v3_9 v4_9 v5_9 H locs ls h => ih_9 v3_9 v4_9 v5_9 H locs ls (hw_9 _ _ _ h)
      unfold b_X3_lightest_9 at hw
      refine lv_iload K.1 K.2.1 dX3_lightest_9 (lv_at hl 5 rfl) ?_
      refine lv_aload_n K.1 K.2.1 dX3_lightest_11 rfl (lv_at hl 0 rfl) ?_
      refine g_get (v := .int c_this_size) K hG hin_RX3 1 rfl rfl 3 (by decide) (K.2.2.2.2.1 (.fieldLink RX3 32 "AimFronts$Front" "size" "I") (by decide +kernel)) rfl rfl dX3_lightest_12 ?_
      refine lv_icmp_ge (tgt := 74) K.1 K.2.1 dX3_lightest_15 (by decide) (fun q_15 => ?_) (fun q_15 => ?_)
      · have hw := hw.1 q_15
        exact hX_9 v3_9 H locs ls hw hG (lv_sub hl [3] rfl)
      · have hw := hw.2 q_15
        refine lv_iconst (v := 0) K.1 K.2.1 dX3_lightest_18 (by decide) ?_
        refine lv_istore (lv' := [(6, .int (0 : Int32)), (0, .ref a_this), (1, .ref a_p1), (2, .int x2), (3, .int v3_9), (4, .int v4_9), (5, .int v5_9)]) K.1 K.2.1 dX3_lightest_19 hl (by decide) rfl (fun ls hl => ?_)
        refine lv_iconst (v := 0) K.1 K.2.1 dX3_lightest_21 (by decide) ?_
        refine lv_istore (lv' := [(7, .int (0 : Int32)), (6, .int (0 : Int32)), (0, .ref a_this), (1, .ref a_p1), (2, .int x2), (3, .int v3_9), (4, .int v4_9), (5, .int v5_9)]) K.1 K.2.1 dX3_lightest_22 hl (by decide) rfl (fun ls hl => ?_)
        obtain ⟨kx_24, hkx_24, n_24, hw⟩ := Lx1_2_abs hw
        have hX_24 : ∀ (v6_24e : Int32) (H : Heap) (locs : List Loc) (ls : Array Slot), kx_24 v6_24e → HW (dC, dI) A s.heap [(a_p1, .inl (cI, 4, .inl c_p1)), (a_this, .inr (3, [.ref a_this_scores, .ref a_this_points, .ref a_this_counts, .int c_this_size, .ref a_this_ideals, .ref a_this_scales])), (a_this_scores, .inl (cJ, 2000, .inr (.inl c_this_scores)))] H locs → lv_has ls 8 [(0, .ref a_this), (1, .ref a_p1), (2, .int x2), (3, .int v3_9), (4, .int v4_9), (5, .int v5_9), (6, .int v6_24e)] → W p l e rm_X3_lightest s m args below meth c H locs 0 0 Q (F0 m 54 ls []) := by
          intro v6_24e H locs ls hw hG hl
          have hw := hkx_24 _ hw
          refine lv_iload K.1 K.2.1 dX3_lightest_54 (lv_at hl 6 rfl) ?_
          refine lv_iload K.1 K.2.1 dX3_lightest_56 (lv_at hl 4 rfl) ?_
          refine lv_icmp_ge (tgt := 68) K.1 K.2.1 dX3_lightest_58 (by decide) (fun q_58 => ?_) (fun q_58 => ?_)
          · have hw := hw.1 q_58
            refine lv_iinc (v := (v5_9 + (1 : Int32))) (lv' := [(5, .int (v5_9 + (1 : Int32))), (0, .ref a_this), (1, .ref a_p1), (2, .int x2), (3, .int v3_9), (4, .int v4_9), (6, .int v6_24e)]) K.1 K.2.1 dX3_lightest_68 hl (k := 5) rfl rfl (by decide) rfl (fun ls hl => ?_)
            refine lv_goto (tgt := 9) K.1 K.2.1 dX3_lightest_71 (by decide) ?_
            exact ih_9 v3_9 v4_9 (v5_9 + (1 : Int32)) H locs ls hw hG (lv_sub hl [1, 2, 3, 4, 5, 0] rfl)
          · have hw := hw.2 q_58
            refine lv_iload K.1 K.2.1 dX3_lightest_61 (lv_at hl 5 rfl) ?_
            refine lv_istore_n (lv' := [(3, .int v5_9), (0, .ref a_this), (1, .ref a_p1), (2, .int x2), (4, .int v4_9), (5, .int v5_9), (6, .int v6_24e)]) K.1 K.2.1 dX3_lightest_63 rfl hl (by decide) rfl (fun ls hl => ?_)
            refine lv_iload K.1 K.2.1 dX3_lightest_64 (lv_at hl 6 rfl) ?_
            refine lv_istore (lv' := [(4, .int v6_24e), (3, .int v5_9), (0, .ref a_this), (1, .ref a_p1), (2, .int x2), (5, .int v5_9), (6, .int v6_24e)]) K.1 K.2.1 dX3_lightest_66 hl (by decide) rfl (fun ls hl => ?_)
            refine lv_iinc (v := (v5_9 + (1 : Int32))) (lv' := [(5, .int (v5_9 + (1 : Int32))), (4, .int v6_24e), (3, .int v5_9), (0, .ref a_this), (1, .ref a_p1), (2, .int x2), (6, .int v6_24e)]) K.1 K.2.1 dX3_lightest_68 hl (k := 5) rfl rfl (by decide) rfl (fun ls hl => ?_)
            refine lv_goto (tgt := 9) K.1 K.2.1 dX3_lightest_71 (by decide) ?_
            exact ih_9 v5_9 v6_24e (v5_9 + (1 : Int32)) H locs ls hw hG (lv_sub hl [3, 4, 5, 2, 1, 0] rfl)
        have hL_24 : ∀ (n : Nat), ∀ (v6_24 : Int32) (v7_24 : Int32) (H : Heap) (locs : List Loc) (ls : Array Slot), Lp2 (b_X3_lightest_24 c_p1 c_this_scores x2 v5_9 kx_24) n v6_24 v7_24 → HW (dC, dI) A s.heap [(a_p1, .inl (cI, 4, .inl c_p1)), (a_this, .inr (3, [.ref a_this_scores, .ref a_this_points, .ref a_this_counts, .int c_this_size, .ref a_this_ideals, .ref a_this_scales])), (a_this_scores, .inl (cJ, 2000, .inr (.inl c_this_scores)))] H locs → lv_has ls 8 [(0, .ref a_this), (1, .ref a_p1), (2, .int x2), (3, .int v3_9), (4, .int v4_9), (5, .int v5_9), (6, .int v6_24), (7, .int v7_24)] → W p l e rm_X3_lightest s m args below meth c H locs 0 0 Q (F0 m 24 ls []) := by
          intro n
          induction n with
          | zero => intro v6_24 v7_24 H locs ls hw; exact False.elim hw
          | succ n ih_24 =>
            intro v6_24 v7_24 H locs ls hw hG hl
            obtain ⟨w_24, hw_24, hw⟩ : ∃ w' : Int32 → Int32 → Prop, (∀ v6_24 v7_24, w' v6_24 v7_24 → Lp2 (b_X3_lightest_24 c_p1 c_this_scores x2 v5_9 kx_24) n v6_24 v7_24) ∧ b_X3_lightest_24 c_p1 c_this_scores x2 v5_9 kx_24 w' v6_24 v7_24 := ⟨_, fun _ _ h => h, hw⟩
            replace ih_24 : ∀ (v6_24 : Int32) (v7_24 : Int32) (H : Heap) (locs : List Loc) (ls : Array Slot), w_24 v6_24 v7_24 → HW (dC, dI) A s.heap [(a_p1, .inl (cI, 4, .inl c_p1)), (a_this, .inr (3, [.ref a_this_scores, .ref a_this_points, .ref a_this_counts, .int c_this_size, .ref a_this_ideals, .ref a_this_scales])), (a_this_scores, .inl (cJ, 2000, .inr (.inl c_this_scores)))] H locs → lv_has ls 8 [(0, .ref a_this), (1, .ref a_p1), (2, .int x2), (3, .int v3_9), (4, .int v4_9), (5, .int v5_9), (6, .int v6_24), (7, .int v7_24)] → W p l e rm_X3_lightest s m args below meth c H locs 0 0 Q (F0 m 24 ls []) := fun v6_24 v7_24 H locs ls h => ih_24 v6_24 v7_24 H locs ls (hw_24 _ _ h)
            unfold b_X3_lightest_24 at hw
            refine lv_iload K.1 K.2.1 dX3_lightest_24 (lv_at hl 7 rfl) ?_
            refine lv_iload_n K.1 K.2.1 dX3_lightest_26 rfl (lv_at hl 2 rfl) ?_
            refine lv_icmp_ge (tgt := 54) K.1 K.2.1 dX3_lightest_27 (by decide) (fun q_27 => ?_) (fun q_27 => ?_)
            · have hw := hw.1 q_27
              exact hX_24 v6_24 H locs ls hw hG (lv_sub hl [0, 1, 2, 3, 4, 5, 6] rfl)
            · have hw := hw.2 q_27
              refine lv_iload K.1 K.2.1 dX3_lightest_30 (lv_at hl 6 rfl) ?_
              refine lv_aload_n K.1 K.2.1 dX3_lightest_32 rfl (lv_at hl 1 rfl) ?_
              refine lv_iload K.1 K.2.1 dX3_lightest_33 (lv_at hl 7 rfl) ?_
              obtain ⟨h_35, hw⟩ := hw
              refine g_iald K hG 0 rfl h_35 dX3_lightest_35 ?_
              refine lv_aload_n K.1 K.2.1 dX3_lightest_36 rfl (lv_at hl 0 rfl) ?_
              refine lv_iload K.1 K.2.1 dX3_lightest_37 (lv_at hl 5 rfl) ?_
              refine lv_iload K.1 K.2.1 dX3_lightest_39 (lv_at hl 7 rfl) ?_
              refine g_ri K hG [1, 2] rfl (g_runV (As := [.int v5_9, .int v7_24]) (rest := [.int (c_p1 (v7_24).toNatClampNeg), .int v6_24]) K hG hl [1, 2] rfl rfl 1 rfl rfl (k_X3_number l dC dI cI cJ cZ cG H.size a_this a_this_scores a_this_points a_this_counts a_this_ideals a_this_scales c_this_scores c_this_size v5_9 v7_24 _ hw) (cwV 2 K.2.2.2.2.1 gX3_lightest_X3_number rfl rfl rfl (by decide +kernel) ⟨by decide, by decide⟩) rfl rfl (Nat.le_of_ble_eq_true rfl) ⟨Nat.zero_le _, Nat.zero_le _⟩ dX3_lightest_41) (fun r_41 H locs hw hG => ?_)
              refine lv_imul K.1 K.2.1 dX3_lightest_44 ?_
              refine lv_iadd K.1 K.2.1 dX3_lightest_45 ?_
              refine lv_istore (lv' := [(6, .int (v6_24 + ((c_p1 (v7_24).toNatClampNeg) * r_41))), (0, .ref a_this), (1, .ref a_p1), (2, .int x2), (3, .int v3_9), (4, .int v4_9), (5, .int v5_9), (7, .int v7_24)]) K.1 K.2.1 dX3_lightest_46 hl (by decide) rfl (fun ls hl => ?_)
              refine lv_iinc (v := (v7_24 + (1 : Int32))) (lv' := [(7, .int (v7_24 + (1 : Int32))), (6, .int (v6_24 + ((c_p1 (v7_24).toNatClampNeg) * r_41))), (0, .ref a_this), (1, .ref a_p1), (2, .int x2), (3, .int v3_9), (4, .int v4_9), (5, .int v5_9)]) K.1 K.2.1 dX3_lightest_48 hl (k := 7) rfl rfl (by decide) rfl (fun ls hl => ?_)
              refine lv_goto (tgt := 24) K.1 K.2.1 dX3_lightest_51 (by decide) ?_
              exact ih_24 (v6_24 + ((c_p1 (v7_24).toNatClampNeg) * r_41)) (v7_24 + (1 : Int32)) H locs ls hw hG (lv_sub hl [2, 3, 4, 5, 6, 7, 1, 0] rfl)
        exact hL_24 n_24 (0 : Int32) (0 : Int32) H locs ls hw hG (lv_sub hl [2, 3, 4, 5, 6, 7, 1, 0] rfl)
  exact hL_9 n_9 (0 : Int32) (2147483647 : Int32) (0 : Int32) H locs ls hw hG (lv_sub hl [3, 4, 5, 2, 1, 0] rfl)
abbrev rm_X6_weighted : Room := { frames := 4, cells := 0, slots := 0, locals := 91 }
set_option maxHeartbeats 4000000 in
set_option maxRecDepth 100000 in
theorem k_X6_weighted (l : Launch) (dC : Nat → ClassId) (dI : Nat → Nat → Nat) (cI cJ cZ cG : ClassId) (sz : Nat) (a_this a_this_task a_this_front a_this_cover a_this_behind a_this_climber a_this_numbers a_this_asked a_this_front_scores a_this_front_points a_this_front_counts a_this_front_ideals a_this_front_scales a_this_task_low a_this_task_high a_this_task_right a_this_task_terms a_this_task_from a_this_task_to a_this_task_costs : Nat) (c_this_asked : Nat → Int32) (c_this_front_scores : Nat → Int64) (c_this_front_size : Int32) (c_this_gone : Int32) (c_this_met : Int32) (c_this_task_aims : Int32) (c_this_task_columns : Int32) (c_this_task_points : Int32) (c_this_task_rows : Int32) (x1 : Int32) (x2 : Int32) (x3 : Int32) (x4 : Int32) (post : Int32 → (Nat → Int32) → Prop) (hw : wp_X6_weighted c_this_asked c_this_front_scores c_this_front_size c_this_task_aims x1 x2 x3 x4 post) : MetI l yX6_weighted wsX6_weighted rm_X6_weighted (dC, dI) cI cJ cZ cG [.ref a_this, .int x1, .int x2, .int x3, .int x4] sz [(a_this, .inr (5, [.ref a_this_task, .ref a_this_front, .ref a_this_cover, .ref a_this_behind, .ref a_this_climber, .ref a_this_numbers, .ref a_this_asked, .int c_this_gone, .int c_this_met])), (a_this_asked, .inl (cI, 4, .inl c_this_asked)), (a_this_front, .inr (3, [.ref a_this_front_scores, .ref a_this_front_points, .ref a_this_front_counts, .int c_this_front_size, .ref a_this_front_ideals, .ref a_this_front_scales])), (a_this_front_scores, .inl (cJ, 2000, .inr (.inl c_this_front_scores))), (a_this_task, .inr (4, [.ref a_this_task_low, .ref a_this_task_high, .ref a_this_task_right, .ref a_this_task_terms, .ref a_this_task_from, .ref a_this_task_to, .ref a_this_task_costs, .int c_this_task_columns, .int c_this_task_rows, .int c_this_task_aims, .int c_this_task_points]))] (fun (r : Int32) (u : (Nat → Int32)) => post r u) (fun u => [(a_this, .inr (5, [.ref a_this_task, .ref a_this_front, .ref a_this_cover, .ref a_this_behind, .ref a_this_climber, .ref a_this_numbers, .ref a_this_asked, .int c_this_gone, .int c_this_met])), (a_this_asked, .inl (cI, 4, .inl u)), (a_this_front, .inr (3, [.ref a_this_front_scores, .ref a_this_front_points, .ref a_this_front_counts, .int c_this_front_size, .ref a_this_front_ideals, .ref a_this_front_scales])), (a_this_front_scores, .inl (cJ, 2000, .inr (.inl c_this_front_scores))), (a_this_task, .inr (4, [.ref a_this_task_low, .ref a_this_task_high, .ref a_this_task_right, .ref a_this_task_terms, .ref a_this_task_from, .ref a_this_task_to, .ref a_this_task_costs, .int c_this_task_columns, .int c_this_task_rows, .int c_this_task_aims, .int c_this_task_points]))]) := by
  refine met_i (ty := .int) (Or.inl rfl) (cc := cX6_weighted) (maxL := 7) (by decide) rfl (Nat.le_of_ble_eq_true rfl) ?_
  intro p e s m args below meth c A Q H locs ls K hG hl hret
  have hl : lv_has ls 7 [(0, .ref a_this), (1, .int x1), (2, .int x2), (3, .int x3), (4, .int x4)] := hl
  have hin_RX3 : ∀ w ∈ u_ws RX3 TX3 6, w ∈ wsX6_weighted := by decide +kernel
  have hin_RX5 : ∀ w ∈ u_ws RX5 TX5 11, w ∈ wsX6_weighted := by decide +kernel
  have hin_RX6 : ∀ w ∈ u_ws RX6 TX6 9, w ∈ wsX6_weighted := by decide +kernel
  unfold wp_X6_weighted at hw
  refine lv_aload_n K.1 K.2.1 dX6_weighted_0 rfl (lv_at hl 0 rfl) ?_
  refine lv_iload_n K.1 K.2.1 dX6_weighted_1 rfl (lv_at hl 1 rfl) ?_
  refine lv_iload_n K.1 K.2.1 dX6_weighted_2 rfl (lv_at hl 2 rfl) ?_
  refine lv_iload_n K.1 K.2.1 dX6_weighted_3 rfl (lv_at hl 3 rfl) ?_
  refine lv_iload K.1 K.2.1 dX6_weighted_4 (lv_at hl 4 rfl) ?_
  refine g_nv (w2 := (fun u => [(a_this, .inr (5, [.ref a_this_task, .ref a_this_front, .ref a_this_cover, .ref a_this_behind, .ref a_this_climber, .ref a_this_numbers, .ref a_this_asked, .int c_this_gone, .int c_this_met])), (a_this_asked, .inl (cI, 4, .inl u)), (a_this_front, .inr (3, [.ref a_this_front_scores, .ref a_this_front_points, .ref a_this_front_counts, .int c_this_front_size, .ref a_this_front_ideals, .ref a_this_front_scales])), (a_this_front_scores, .inl (cJ, 2000, .inr (.inl c_this_front_scores))), (a_this_task, .inr (4, [.ref a_this_task_low, .ref a_this_task_high, .ref a_this_task_right, .ref a_this_task_terms, .ref a_this_task_from, .ref a_this_task_to, .ref a_this_task_costs, .int c_this_task_columns, .int c_this_task_rows, .int c_this_task_aims, .int c_this_task_points]))])) (wr := [(a_this_front, .inr (3, [.ref a_this_front_scores, .ref a_this_front_points, .ref a_this_front_counts, .int c_this_front_size, .ref a_this_front_ideals, .ref a_this_front_scales])), (a_this_front_scores, .inl (cJ, 2000, .inr (.inl c_this_front_scores))), (a_this_task, .inr (4, [.ref a_this_task_low, .ref a_this_task_high, .ref a_this_task_right, .ref a_this_task_terms, .ref a_this_task_from, .ref a_this_task_to, .ref a_this_task_costs, .int c_this_task_columns, .int c_this_task_rows, .int c_this_task_aims, .int c_this_task_points]))]) K hG [0, 1] [2, 3, 4] 5 rfl (g_runV (As := [.int x1, .int x2, .int x3, .int x4]) (rest := []) K hG hl [0, 1] rfl rfl 0 rfl rfl (k_X6_ask l dC dI cI cJ cZ cG H.size a_this a_this_task a_this_front a_this_cover a_this_behind a_this_climber a_this_numbers a_this_asked c_this_asked c_this_gone c_this_met x1 x2 x3 x4 _ hw) (cwV 4 K.2.2.2.2.1 gX6_weighted_X6_ask rfl rfl rfl (by decide +kernel) ⟨by decide, by decide⟩) rfl rfl (Nat.le_of_ble_eq_true rfl) ⟨Nat.zero_le _, Nat.zero_le _⟩ dX6_weighted_6) (fun _ => rfl) (fun _ => rfl) rfl (fun _ => rfl) (fun _ => rfl) (by decide) (by decide) (by decide) (fun u H locs hw hG => ?_)
  obtain ⟨c_this_asked_6, rfl⟩ : ∃ z, z = u := ⟨_, rfl⟩
  have hG : HW (dC, dI) A s.heap [(a_this, .inr (5, [.ref a_this_task, .ref a_this_front, .ref a_this_cover, .ref a_this_behind, .ref a_this_climber, .ref a_this_numbers, .ref a_this_asked, .int c_this_gone, .int c_this_met])), (a_this_asked, .inl (cI, 4, .inl c_this_asked_6)), (a_this_front, .inr (3, [.ref a_this_front_scores, .ref a_this_front_points, .ref a_this_front_counts, .int c_this_front_size, .ref a_this_front_ideals, .ref a_this_front_scales])), (a_this_front_scores, .inl (cJ, 2000, .inr (.inl c_this_front_scores))), (a_this_task, .inr (4, [.ref a_this_task_low, .ref a_this_task_high, .ref a_this_task_right, .ref a_this_task_terms, .ref a_this_task_from, .ref a_this_task_to, .ref a_this_task_costs, .int c_this_task_columns, .int c_this_task_rows, .int c_this_task_aims, .int c_this_task_points]))] H locs := hG
  refine lv_iconst (v := 1) K.1 K.2.1 dX6_weighted_9 (by decide) ?_
  refine lv_istore (lv' := [(5, .int (1 : Int32)), (0, .ref a_this), (1, .int x1), (2, .int x2), (3, .int x3), (4, .int x4)]) K.1 K.2.1 dX6_weighted_10 hl (by decide) rfl (fun ls hl => ?_)
  refine lv_iconst (v := 0) K.1 K.2.1 dX6_weighted_12 (by decide) ?_
  refine lv_istore (lv' := [(6, .int (0 : Int32)), (5, .int (1 : Int32)), (0, .ref a_this), (1, .int x1), (2, .int x2), (3, .int x3), (4, .int x4)]) K.1 K.2.1 dX6_weighted_13 hl (by decide) rfl (fun ls hl => ?_)
  obtain ⟨kx_15, hkx_15, n_15, hw⟩ := Lx1_2_abs hw
  have hX_15 : ∀ (v5_15e : Int32) (H : Heap) (locs : List Loc) (ls : Array Slot), kx_15 v5_15e → HW (dC, dI) A s.heap [(a_this, .inr (5, [.ref a_this_task, .ref a_this_front, .ref a_this_cover, .ref a_this_behind, .ref a_this_climber, .ref a_this_numbers, .ref a_this_asked, .int c_this_gone, .int c_this_met])), (a_this_asked, .inl (cI, 4, .inl c_this_asked_6)), (a_this_front, .inr (3, [.ref a_this_front_scores, .ref a_this_front_points, .ref a_this_front_counts, .int c_this_front_size, .ref a_this_front_ideals, .ref a_this_front_scales])), (a_this_front_scores, .inl (cJ, 2000, .inr (.inl c_this_front_scores))), (a_this_task, .inr (4, [.ref a_this_task_low, .ref a_this_task_high, .ref a_this_task_right, .ref a_this_task_terms, .ref a_this_task_from, .ref a_this_task_to, .ref a_this_task_costs, .int c_this_task_columns, .int c_this_task_rows, .int c_this_task_aims, .int c_this_task_points]))] H locs → lv_has ls 7 [(0, .ref a_this), (5, .int v5_15e)] → W p l e rm_X6_weighted s m args below meth c H locs 0 0 Q (F0 m 80 ls []) := by
    intro v5_15e H locs ls hw hG hl
    have hw := hkx_15 _ hw
    refine lv_aload_n K.1 K.2.1 dX6_weighted_80 rfl (lv_at hl 0 rfl) ?_
    refine g_get (v := .ref a_this_front) K hG hin_RX6 0 rfl rfl 1 (by decide) (K.2.2.2.2.1 (.fieldLink RX6 19 "AimFronts" "front" "LAimFronts$Front;") (by decide +kernel)) rfl rfl dX6_weighted_81 ?_
    refine g_get (v := .int c_this_front_size) K hG hin_RX3 2 rfl rfl 3 (by decide) (K.2.2.2.2.1 (.fieldLink RX6 121 "AimFronts$Front" "size" "I") (by decide +kernel)) rfl rfl dX6_weighted_84 ?_
    refine lv_if_eq (tgt := 95) K.1 K.2.1 dX6_weighted_87 (by decide) (fun q_87 => ?_) (fun q_87 => ?_)
    · have hw := hw.1 q_87
      refine lv_ldc (v := -1000002) K.1 K.2.1 K.2.2.2.1 (K.2.2.2.2.1 (.constant RX6 104 (-1000002)) (by decide +kernel)) dX6_weighted_95 ?_
      refine lv_goto (tgt := 118) K.1 K.2.1 dX6_weighted_97 (by decide) ?_
      exact hret (-1000002 : Int32) c_this_asked_6 H locs _ ls dX6_weighted_118 rfl hw hG
    · have hw := hw.2 q_87
      refine lv_iload K.1 K.2.1 dX6_weighted_90 (lv_at hl 1 rfl) ?_
      refine lv_if_eq (tgt := 100) K.1 K.2.1 dX6_weighted_92 (by decide) (fun q_92 => ?_) (fun q_92 => ?_)
      · have hw := hw.1 q_92
        refine lv_aload_n K.1 K.2.1 dX6_weighted_100 rfl (lv_at hl 0 rfl) ?_
        refine g_get (v := .ref a_this_front) K hG hin_RX6 0 rfl rfl 1 (by decide) (K.2.2.2.2.1 (.fieldLink RX6 19 "AimFronts" "front" "LAimFronts$Front;") (by decide +kernel)) rfl rfl dX6_weighted_101 ?_
        refine lv_aload_n K.1 K.2.1 dX6_weighted_104 rfl (lv_at hl 0 rfl) ?_
        refine g_get (v := .ref a_this_asked) K hG hin_RX6 0 rfl rfl 6 (by decide) (K.2.2.2.2.1 (.fieldLink RX6 48 "AimFronts" "asked" "[I") (by decide +kernel)) rfl rfl dX6_weighted_105 ?_
        refine lv_aload_n K.1 K.2.1 dX6_weighted_108 rfl (lv_at hl 0 rfl) ?_
        refine g_get (v := .ref a_this_task) K hG hin_RX6 0 rfl rfl 0 (by decide) (K.2.2.2.2.1 (.fieldLink RX6 10 "AimFronts" "task" "LAimFronts$Task;") (by decide +kernel)) rfl rfl dX6_weighted_109 ?_
        refine g_get (v := .int c_this_task_aims) K hG hin_RX5 4 rfl rfl 9 (by decide) (K.2.2.2.2.1 (.fieldLink RX6 85 "AimFronts$Task" "aims" "I") (by decide +kernel)) rfl rfl dX6_weighted_112 ?_
        refine g_ri K hG [1, 2, 3] rfl (g_runV (As := [.ref a_this_asked, .int c_this_task_aims]) (rest := []) K hG hl [1, 2, 3] rfl rfl 2 rfl rfl (k_X3_lightest l dC dI cI cJ cZ cG H.size a_this_asked a_this_front a_this_front_scores a_this_front_points a_this_front_counts a_this_front_ideals a_this_front_scales c_this_asked_6 c_this_front_scores c_this_front_size c_this_task_aims _ hw) (cwV 2 K.2.2.2.2.1 gX6_weighted_X3_lightest rfl rfl rfl (by decide +kernel) ⟨by decide, by decide⟩) rfl rfl (Nat.le_of_ble_eq_true rfl) ⟨Nat.zero_le _, Nat.zero_le _⟩ dX6_weighted_115) (fun r_115 H locs hw hG => ?_)
        exact hret r_115 c_this_asked_6 H locs _ ls dX6_weighted_118 rfl hw hG
      · have hw := hw.2 q_92
        refine lv_ldc (v := -1000002) K.1 K.2.1 K.2.2.2.1 (K.2.2.2.2.1 (.constant RX6 104 (-1000002)) (by decide +kernel)) dX6_weighted_95 ?_
        refine lv_goto (tgt := 118) K.1 K.2.1 dX6_weighted_97 (by decide) ?_
        exact hret (-1000002 : Int32) c_this_asked_6 H locs _ ls dX6_weighted_118 rfl hw hG
  have hL_15 : ∀ (n : Nat), ∀ (v5_15 : Int32) (v6_15 : Int32) (H : Heap) (locs : List Loc) (ls : Array Slot), Lp2 (b_X6_weighted_15 c_this_task_aims post c_this_asked_6 kx_15) n v5_15 v6_15 → HW (dC, dI) A s.heap [(a_this, .inr (5, [.ref a_this_task, .ref a_this_front, .ref a_this_cover, .ref a_this_behind, .ref a_this_climber, .ref a_this_numbers, .ref a_this_asked, .int c_this_gone, .int c_this_met])), (a_this_asked, .inl (cI, 4, .inl c_this_asked_6)), (a_this_front, .inr (3, [.ref a_this_front_scores, .ref a_this_front_points, .ref a_this_front_counts, .int c_this_front_size, .ref a_this_front_ideals, .ref a_this_front_scales])), (a_this_front_scores, .inl (cJ, 2000, .inr (.inl c_this_front_scores))), (a_this_task, .inr (4, [.ref a_this_task_low, .ref a_this_task_high, .ref a_this_task_right, .ref a_this_task_terms, .ref a_this_task_from, .ref a_this_task_to, .ref a_this_task_costs, .int c_this_task_columns, .int c_this_task_rows, .int c_this_task_aims, .int c_this_task_points]))] H locs → lv_has ls 7 [(0, .ref a_this), (5, .int v5_15), (6, .int v6_15)] → W p l e rm_X6_weighted s m args below meth c H locs 0 0 Q (F0 m 15 ls []) := by
    intro n
    induction n with
    | zero => intro v5_15 v6_15 H locs ls hw; exact False.elim hw
    | succ n ih_15 =>
      intro v5_15 v6_15 H locs ls hw hG hl
      obtain ⟨w_15, hw_15, hw⟩ : ∃ w' : Int32 → Int32 → Prop, (∀ v5_15 v6_15, w' v5_15 v6_15 → Lp2 (b_X6_weighted_15 c_this_task_aims post c_this_asked_6 kx_15) n v5_15 v6_15) ∧ b_X6_weighted_15 c_this_task_aims post c_this_asked_6 kx_15 w' v5_15 v6_15 := ⟨_, fun _ _ h => h, hw⟩
      replace ih_15 : ∀ (v5_15 : Int32) (v6_15 : Int32) (H : Heap) (locs : List Loc) (ls : Array Slot), w_15 v5_15 v6_15 → HW (dC, dI) A s.heap [(a_this, .inr (5, [.ref a_this_task, .ref a_this_front, .ref a_this_cover, .ref a_this_behind, .ref a_this_climber, .ref a_this_numbers, .ref a_this_asked, .int c_this_gone, .int c_this_met])), (a_this_asked, .inl (cI, 4, .inl c_this_asked_6)), (a_this_front, .inr (3, [.ref a_this_front_scores, .ref a_this_front_points, .ref a_this_front_counts, .int c_this_front_size, .ref a_this_front_ideals, .ref a_this_front_scales])), (a_this_front_scores, .inl (cJ, 2000, .inr (.inl c_this_front_scores))), (a_this_task, .inr (4, [.ref a_this_task_low, .ref a_this_task_high, .ref a_this_task_right, .ref a_this_task_terms, .ref a_this_task_from, .ref a_this_task_to, .ref a_this_task_costs, .int c_this_task_columns, .int c_this_task_rows, .int c_this_task_aims, .int c_this_task_points]))] H locs → lv_has ls 7 [(0, .ref a_this), (5, .int v5_15), (6, .int v6_15)] → W p l e rm_X6_weighted s m args below meth c H locs 0 0 Q (F0 m 15 ls []) := fun v5_15 v6_15 H locs ls h => ih_15 v5_15 v6_15 H locs ls (hw_15 _ _ h)
      unfold b_X6_weighted_15 at hw
      refine lv_iload K.1 K.2.1 dX6_weighted_15 (lv_at hl 2 rfl) ?_
      refine lv_aload_n K.1 K.2.1 dX6_weighted_17 rfl (lv_at hl 0 rfl) ?_
      refine g_get (v := .ref a_this_task) K hG hin_RX6 0 rfl rfl 0 (by decide) (K.2.2.2.2.1 (.fieldLink RX6 10 "AimFronts" "task" "LAimFronts$Task;") (by decide +kernel)) rfl rfl dX6_weighted_18 ?_
      refine g_get (v := .int c_this_task_aims) K hG hin_RX5 4 rfl rfl 9 (by decide) (K.2.2.2.2.1 (.fieldLink RX6 85 "AimFronts$Task" "aims" "I") (by decide +kernel)) rfl rfl dX6_weighted_21 ?_
      refine lv_icmp_ge (tgt := 80) K.1 K.2.1 dX6_weighted_24 (by decide) (fun q_24 => ?_) (fun q_24 => ?_)
      · have hw := hw.1 q_24
        exact hX_15 v5_15 H locs ls hw hG (lv_sub hl [0, 1] rfl)
      · have hw := hw.2 q_24
        refine lv_aload_n K.1 K.2.1 dX6_weighted_27 rfl (lv_at hl 0 rfl) ?_
        refine g_get (v := .ref a_this_asked) K hG hin_RX6 0 rfl rfl 6 (by decide) (K.2.2.2.2.1 (.fieldLink RX6 48 "AimFronts" "asked" "[I") (by decide +kernel)) rfl rfl dX6_weighted_28 ?_
        refine lv_iload K.1 K.2.1 dX6_weighted_31 (lv_at hl 2 rfl) ?_
        obtain ⟨h_33, hw⟩ := hw
        refine g_iald K hG 1 rfl h_33 dX6_weighted_33 ?_
        refine lv_if_lt (tgt := 49) K.1 K.2.1 dX6_weighted_34 (by decide) (fun q_34 => ?_) (fun q_34 => ?_)
        · have hw := hw.1 q_34
          refine lv_ldc (v := -1000001) K.1 K.2.1 K.2.2.2.1 (K.2.2.2.2.1 (.constant RX6 55 (-1000001)) (by decide +kernel)) dX6_weighted_49 ?_
          exact hret (-1000001 : Int32) c_this_asked_6 H locs _ ls dX6_weighted_51 rfl hw hG
        · have hw := hw.2 q_34
          refine lv_aload_n K.1 K.2.1 dX6_weighted_37 rfl (lv_at hl 0 rfl) ?_
          refine g_get (v := .ref a_this_asked) K hG hin_RX6 0 rfl rfl 6 (by decide) (K.2.2.2.2.1 (.fieldLink RX6 48 "AimFronts" "asked" "[I") (by decide +kernel)) rfl rfl dX6_weighted_38 ?_
          refine lv_iload K.1 K.2.1 dX6_weighted_41 (lv_at hl 2 rfl) ?_
          obtain ⟨h_43, hw⟩ := hw
          refine g_iald K hG 1 rfl h_43 dX6_weighted_43 ?_
          refine lv_bipush (v := 100) K.1 K.2.1 dX6_weighted_44 (by decide) ?_
          refine lv_icmp_le (tgt := 52) K.1 K.2.1 dX6_weighted_46 (by decide) (fun q_46 => ?_) (fun q_46 => ?_)
          · have hw := hw.1 q_46
            refine lv_iload K.1 K.2.1 dX6_weighted_52 (lv_at hl 1 rfl) ?_
            refine lv_if_eq (tgt := 71) K.1 K.2.1 dX6_weighted_54 (by decide) (fun q_54 => ?_) (fun q_54 => ?_)
            · have hw := hw.1 q_54
              refine lv_iconst (v := 0) K.1 K.2.1 dX6_weighted_71 (by decide) ?_
              refine lv_istore (lv' := [(5, .int (0 : Int32)), (0, .ref a_this), (6, .int v6_15)]) K.1 K.2.1 dX6_weighted_72 hl (by decide) rfl (fun ls hl => ?_)
              refine lv_iinc (v := (v6_15 + (1 : Int32))) (lv' := [(6, .int (v6_15 + (1 : Int32))), (5, .int (0 : Int32)), (0, .ref a_this)]) K.1 K.2.1 dX6_weighted_74 hl (k := 2) rfl rfl (by decide) rfl (fun ls hl => ?_)
              refine lv_goto (tgt := 15) K.1 K.2.1 dX6_weighted_77 (by decide) ?_
              exact ih_15 (0 : Int32) (v6_15 + (1 : Int32)) H locs ls hw hG (lv_sub hl [2, 1, 0] rfl)
            · have hw := hw.2 q_54
              refine lv_aload_n K.1 K.2.1 dX6_weighted_57 rfl (lv_at hl 0 rfl) ?_
              refine g_get (v := .ref a_this_asked) K hG hin_RX6 0 rfl rfl 6 (by decide) (K.2.2.2.2.1 (.fieldLink RX6 48 "AimFronts" "asked" "[I") (by decide +kernel)) rfl rfl dX6_weighted_58 ?_
              refine lv_iload K.1 K.2.1 dX6_weighted_61 (lv_at hl 2 rfl) ?_
              obtain ⟨h_63, hw⟩ := hw
              refine g_iald K hG 1 rfl h_63 dX6_weighted_63 ?_
              refine lv_if_ne (tgt := 71) K.1 K.2.1 dX6_weighted_64 (by decide) (fun q_64 => ?_) (fun q_64 => ?_)
              · have hw := hw.2 q_64
                refine lv_iconst (v := 0) K.1 K.2.1 dX6_weighted_71 (by decide) ?_
                refine lv_istore (lv' := [(5, .int (0 : Int32)), (0, .ref a_this), (6, .int v6_15)]) K.1 K.2.1 dX6_weighted_72 hl (by decide) rfl (fun ls hl => ?_)
                refine lv_iinc (v := (v6_15 + (1 : Int32))) (lv' := [(6, .int (v6_15 + (1 : Int32))), (5, .int (0 : Int32)), (0, .ref a_this)]) K.1 K.2.1 dX6_weighted_74 hl (k := 2) rfl rfl (by decide) rfl (fun ls hl => ?_)
                refine lv_goto (tgt := 15) K.1 K.2.1 dX6_weighted_77 (by decide) ?_
                exact ih_15 (0 : Int32) (v6_15 + (1 : Int32)) H locs ls hw hG (lv_sub hl [2, 1, 0] rfl)
              · have hw := hw.1 q_64
                refine lv_iconst (v := 1) K.1 K.2.1 dX6_weighted_67 (by decide) ?_
                refine lv_goto (tgt := 72) K.1 K.2.1 dX6_weighted_68 (by decide) ?_
                refine lv_istore (lv' := [(5, .int (1 : Int32)), (0, .ref a_this), (6, .int v6_15)]) K.1 K.2.1 dX6_weighted_72 hl (by decide) rfl (fun ls hl => ?_)
                refine lv_iinc (v := (v6_15 + (1 : Int32))) (lv' := [(6, .int (v6_15 + (1 : Int32))), (5, .int (1 : Int32)), (0, .ref a_this)]) K.1 K.2.1 dX6_weighted_74 hl (k := 2) rfl rfl (by decide) rfl (fun ls hl => ?_)
                refine lv_goto (tgt := 15) K.1 K.2.1 dX6_weighted_77 (by decide) ?_
                exact ih_15 (1 : Int32) (v6_15 + (1 : Int32)) H locs ls hw hG (lv_sub hl [2, 1, 0] rfl)
          · have hw := hw.2 q_46
            refine lv_ldc (v := -1000001) K.1 K.2.1 K.2.2.2.1 (K.2.2.2.2.1 (.constant RX6 55 (-1000001)) (by decide +kernel)) dX6_weighted_49 ?_
            exact hret (-1000001 : Int32) c_this_asked_6 H locs _ ls dX6_weighted_51 rfl hw hG
  exact hL_15 n_15 (1 : Int32) (0 : Int32) H locs ls hw hG (lv_sub hl [2, 1, 0] rfl)
abbrev rm_X3_isLessInTurn : Room := { frames := 3, cells := 0, slots := 0, locals := 64 }
set_option maxHeartbeats 4000000 in
set_option maxRecDepth 100000 in
theorem k_X3_isLessInTurn (l : Launch) (dC : Nat → ClassId) (dI : Nat → Nat → Nat) (cI cJ cZ cG : ClassId) (sz : Nat) (a_p3 a_this a_this_scores a_this_points a_this_counts a_this_ideals a_this_scales : Nat) (c_p3 : Nat → Int32) (c_this_scores : Nat → Int64) (c_this_size : Int32) (x1 : Int32) (x2 : Int32) (x4 : Int32) (post : Int32 → Prop) (hw : wp_X3_isLessInTurn c_p3 c_this_scores x1 x2 x4 post) : MetI l yX3_isLessInTurn wsX3_isLessInTurn rm_X3_isLessInTurn (dC, dI) cI cJ cZ cG [.ref a_this, .int x1, .int x2, .ref a_p3, .int x4] sz [(a_p3, .inl (cI, 4, .inl c_p3)), (a_this, .inr (3, [.ref a_this_scores, .ref a_this_points, .ref a_this_counts, .int c_this_size, .ref a_this_ideals, .ref a_this_scales])), (a_this_scores, .inl (cJ, 2000, .inr (.inl c_this_scores)))] (fun (r : Int32) (u : Unit) => post r) (fun u => [(a_p3, .inl (cI, 4, .inl c_p3)), (a_this, .inr (3, [.ref a_this_scores, .ref a_this_points, .ref a_this_counts, .int c_this_size, .ref a_this_ideals, .ref a_this_scales])), (a_this_scores, .inl (cJ, 2000, .inr (.inl c_this_scores)))]) := by
  refine met_i (ty := .boolean) (Or.inr rfl) (cc := cX3_isLessInTurn) (maxL := 8) (by decide) rfl (Nat.le_of_ble_eq_true rfl) ?_
  intro p e s m args below meth c A Q H locs ls K hG hl hret
  have hl : lv_has ls 8 [(0, .ref a_this), (1, .int x1), (2, .int x2), (3, .ref a_p3), (4, .int x4)] := hl
  have hin_RX3 : ∀ w ∈ u_ws RX3 TX3 6, w ∈ wsX3_isLessInTurn := by decide +kernel
  unfold wp_X3_isLessInTurn at hw
  refine lv_iconst (v := 0) K.1 K.2.1 dX3_isLessInTurn_0 (by decide) ?_
  refine lv_istore (lv' := [(5, .int (0 : Int32)), (0, .ref a_this), (1, .int x1), (2, .int x2), (3, .ref a_p3), (4, .int x4)]) K.1 K.2.1 dX3_isLessInTurn_1 hl (by decide) rfl (fun ls hl => ?_)
  obtain ⟨kx_3, hkx_3, n_3, hw⟩ := Lx0_1_abs hw
  have hX_3 : ∀  (H : Heap) (locs : List Loc) (ls : Array Slot), kx_3 → HW (dC, dI) A s.heap [(a_p3, .inl (cI, 4, .inl c_p3)), (a_this, .inr (3, [.ref a_this_scores, .ref a_this_points, .ref a_this_counts, .int c_this_size, .ref a_this_ideals, .ref a_this_scales])), (a_this_scores, .inl (cJ, 2000, .inr (.inl c_this_scores)))] H locs → lv_has ls 8 [] → W p l e rm_X3_isLessInTurn s m args below meth c H locs 0 0 Q (F0 m 58 ls []) := by
    intro H locs ls hw hG hl
    have hw := hkx_3 hw
    refine lv_iconst (v := 0) K.1 K.2.1 dX3_isLessInTurn_58 (by decide) ?_
    exact hret (0 : Int32) () H locs _ ls dX3_isLessInTurn_59 rfl hw hG
  have hL_3 : ∀ (n : Nat), ∀ (v5_3 : Int32) (H : Heap) (locs : List Loc) (ls : Array Slot), Lp1 (b_X3_isLessInTurn_3 c_p3 c_this_scores x1 x2 x4 post kx_3) n v5_3 → HW (dC, dI) A s.heap [(a_p3, .inl (cI, 4, .inl c_p3)), (a_this, .inr (3, [.ref a_this_scores, .ref a_this_points, .ref a_this_counts, .int c_this_size, .ref a_this_ideals, .ref a_this_scales])), (a_this_scores, .inl (cJ, 2000, .inr (.inl c_this_scores)))] H locs → lv_has ls 8 [(0, .ref a_this), (1, .int x1), (2, .int x2), (3, .ref a_p3), (4, .int x4), (5, .int v5_3)] → W p l e rm_X3_isLessInTurn s m args below meth c H locs 0 0 Q (F0 m 3 ls []) := by
    intro n
    induction n with
    | zero => intro v5_3 H locs ls hw; exact False.elim hw
    | succ n ih_3 =>
      intro v5_3 H locs ls hw hG hl
      obtain ⟨w_3, hw_3, hw⟩ : ∃ w' : Int32 → Prop, (∀ v5_3, w' v5_3 → Lp1 (b_X3_isLessInTurn_3 c_p3 c_this_scores x1 x2 x4 post kx_3) n v5_3) ∧ b_X3_isLessInTurn_3 c_p3 c_this_scores x1 x2 x4 post kx_3 w' v5_3 := ⟨_, fun _ h => h, hw⟩
      replace ih_3 : ∀ (v5_3 : Int32) (H : Heap) (locs : List Loc) (ls : Array Slot), w_3 v5_3 → HW (dC, dI) A s.heap [(a_p3, .inl (cI, 4, .inl c_p3)), (a_this, .inr (3, [.ref a_this_scores, .ref a_this_points, .ref a_this_counts, .int c_this_size, .ref a_this_ideals, .ref a_this_scales])), (a_this_scores, .inl (cJ, 2000, .inr (.inl c_this_scores)))] H locs → lv_has ls 8 [(0, .ref a_this), (1, .int x1), (2, .int x2), (3, .ref a_p3), (4, .int x4), (5, .int v5_3)] → W p l e rm_X3_isLessInTurn s m args below meth c H locs 0 0 Q (F0 m 3 ls []) := fun v5_3 H locs ls h => ih_3 v5_3 H locs ls (hw_3 _ h)
      unfold b_X3_isLessInTurn_3 at hw
      refine lv_iload K.1 K.2.1 dX3_isLessInTurn_3 (lv_at hl 5 rfl) ?_
      refine lv_iload K.1 K.2.1 dX3_isLessInTurn_5 (lv_at hl 4 rfl) ?_
      refine lv_icmp_ge (tgt := 58) K.1 K.2.1 dX3_isLessInTurn_7 (by decide) (fun q_7 => ?_) (fun q_7 => ?_)
      · have hw := hw.1 q_7
        exact hX_3 H locs ls hw hG (lv_sub hl [] rfl)
      · have hw := hw.2 q_7
        refine lv_aload_n K.1 K.2.1 dX3_isLessInTurn_10 rfl (lv_at hl 0 rfl) ?_
        refine lv_iload_n K.1 K.2.1 dX3_isLessInTurn_11 rfl (lv_at hl 1 rfl) ?_
        refine lv_aload_n K.1 K.2.1 dX3_isLessInTurn_12 rfl (lv_at hl 3 rfl) ?_
        refine lv_iload K.1 K.2.1 dX3_isLessInTurn_13 (lv_at hl 5 rfl) ?_
        obtain ⟨h_15, hw⟩ := hw
        refine g_iald K hG 0 rfl h_15 dX3_isLessInTurn_15 ?_
        refine g_ri K hG [1, 2] rfl (g_runV (As := [.int x1, .int (c_p3 (v5_3).toNatClampNeg)]) (rest := []) K hG hl [1, 2] rfl rfl 1 rfl rfl (k_X3_number l dC dI cI cJ cZ cG H.size a_this a_this_scores a_this_points a_this_counts a_this_ideals a_this_scales c_this_scores c_this_size x1 (c_p3 (v5_3).toNatClampNeg) _ hw) (cwV 2 K.2.2.2.2.1 gX3_isLessInTurn_X3_number rfl rfl rfl (by decide +kernel) ⟨by decide, by decide⟩) rfl rfl (Nat.le_of_ble_eq_true rfl) ⟨Nat.zero_le _, Nat.zero_le _⟩ dX3_isLessInTurn_16) (fun r_16 H locs hw hG => ?_)
        refine lv_istore (lv' := [(6, .int r_16), (0, .ref a_this), (1, .int x1), (2, .int x2), (3, .ref a_p3), (4, .int x4), (5, .int v5_3)]) K.1 K.2.1 dX3_isLessInTurn_19 hl (by decide) rfl (fun ls hl => ?_)
        refine lv_aload_n K.1 K.2.1 dX3_isLessInTurn_21 rfl (lv_at hl 1 rfl) ?_
        refine lv_iload_n K.1 K.2.1 dX3_isLessInTurn_22 rfl (lv_at hl 3 rfl) ?_
        refine lv_aload_n K.1 K.2.1 dX3_isLessInTurn_23 rfl (lv_at hl 4 rfl) ?_
        refine lv_iload K.1 K.2.1 dX3_isLessInTurn_24 (lv_at hl 6 rfl) ?_
        obtain ⟨h_26, hw⟩ := hw
        refine g_iald K hG 0 rfl h_26 dX3_isLessInTurn_26 ?_
        refine g_ri K hG [1, 2] rfl (g_runV (As := [.int x2, .int (c_p3 (v5_3).toNatClampNeg)]) (rest := []) K hG hl [1, 2] rfl rfl 1 rfl rfl (k_X3_number l dC dI cI cJ cZ cG H.size a_this a_this_scores a_this_points a_this_counts a_this_ideals a_this_scales c_this_scores c_this_size x2 (c_p3 (v5_3).toNatClampNeg) _ hw) (cwV 2 K.2.2.2.2.1 gX3_isLessInTurn_X3_number rfl rfl rfl (by decide +kernel) ⟨by decide, by decide⟩) rfl rfl (Nat.le_of_ble_eq_true rfl) ⟨Nat.zero_le _, Nat.zero_le _⟩ dX3_isLessInTurn_27) (fun r_27 H locs hw hG => ?_)
        refine lv_istore (lv' := [(7, .int r_27), (6, .int r_16), (0, .ref a_this), (1, .int x1), (2, .int x2), (3, .ref a_p3), (4, .int x4), (5, .int v5_3)]) K.1 K.2.1 dX3_isLessInTurn_30 hl (by decide) rfl (fun ls hl => ?_)
        refine lv_iload K.1 K.2.1 dX3_isLessInTurn_32 (lv_at hl 1 rfl) ?_
        refine lv_iload K.1 K.2.1 dX3_isLessInTurn_34 (lv_at hl 0 rfl) ?_
        refine lv_icmp_eq (tgt := 52) K.1 K.2.1 dX3_isLessInTurn_36 (by decide) (fun q_36 => ?_) (fun q_36 => ?_)
        · have hw := hw.1 q_36
          refine lv_iinc (v := (v5_3 + (1 : Int32))) (lv' := [(5, .int (v5_3 + (1 : Int32))), (7, .int r_27), (6, .int r_16), (0, .ref a_this), (1, .int x1), (2, .int x2), (3, .ref a_p3), (4, .int x4)]) K.1 K.2.1 dX3_isLessInTurn_52 hl (k := 7) rfl rfl (by decide) rfl (fun ls hl => ?_)
          refine lv_goto (tgt := 3) K.1 K.2.1 dX3_isLessInTurn_55 (by decide) ?_
          exact ih_3 (v5_3 + (1 : Int32)) H locs ls hw hG (lv_sub hl [3, 4, 5, 6, 7, 0] rfl)
        · have hw := hw.2 q_36
          refine lv_iload K.1 K.2.1 dX3_isLessInTurn_39 (lv_at hl 1 rfl) ?_
          refine lv_iload K.1 K.2.1 dX3_isLessInTurn_41 (lv_at hl 0 rfl) ?_
          refine lv_icmp_ge (tgt := 50) K.1 K.2.1 dX3_isLessInTurn_43 (by decide) (fun q_43 => ?_) (fun q_43 => ?_)
          · have hw := hw.1 q_43
            refine lv_iconst (v := 0) K.1 K.2.1 dX3_isLessInTurn_50 (by decide) ?_
            exact hret (0 : Int32) () H locs _ ls dX3_isLessInTurn_51 rfl hw hG
          · have hw := hw.2 q_43
            refine lv_iconst (v := 1) K.1 K.2.1 dX3_isLessInTurn_46 (by decide) ?_
            refine lv_goto (tgt := 51) K.1 K.2.1 dX3_isLessInTurn_47 (by decide) ?_
            exact hret (1 : Int32) () H locs _ ls dX3_isLessInTurn_51 rfl hw hG
  exact hL_3 n_3 (0 : Int32) H locs ls hw hG (lv_sub hl [1, 2, 3, 4, 5, 0] rfl)
abbrev rm_X3_leastInTurn : Room := { frames := 4, cells := 0, slots := 0, locals := 91 }
set_option maxHeartbeats 4000000 in
set_option maxRecDepth 100000 in
theorem k_X3_leastInTurn (l : Launch) (dC : Nat → ClassId) (dI : Nat → Nat → Nat) (cI cJ cZ cG : ClassId) (sz : Nat) (a_p1 a_this a_this_scores a_this_points a_this_counts a_this_ideals a_this_scales : Nat) (c_p1 : Nat → Int32) (c_this_scores : Nat → Int64) (c_this_size : Int32) (x2 : Int32) (post : Int32 → Prop) (hw : wp_X3_leastInTurn c_p1 c_this_scores c_this_size x2 post) : MetI l yX3_leastInTurn wsX3_leastInTurn rm_X3_leastInTurn (dC, dI) cI cJ cZ cG [.ref a_this, .ref a_p1, .int x2] sz [(a_p1, .inl (cI, 4, .inl c_p1)), (a_this, .inr (3, [.ref a_this_scores, .ref a_this_points, .ref a_this_counts, .int c_this_size, .ref a_this_ideals, .ref a_this_scales])), (a_this_scores, .inl (cJ, 2000, .inr (.inl c_this_scores)))] (fun (r : Int32) (u : Unit) => post r) (fun u => [(a_p1, .inl (cI, 4, .inl c_p1)), (a_this, .inr (3, [.ref a_this_scores, .ref a_this_points, .ref a_this_counts, .int c_this_size, .ref a_this_ideals, .ref a_this_scales])), (a_this_scores, .inl (cJ, 2000, .inr (.inl c_this_scores)))]) := by
  refine met_i (ty := .int) (Or.inl rfl) (cc := cX3_leastInTurn) (maxL := 5) (by decide) rfl (Nat.le_of_ble_eq_true rfl) ?_
  intro p e s m args below meth c A Q H locs ls K hG hl hret
  have hl : lv_has ls 5 [(0, .ref a_this), (1, .ref a_p1), (2, .int x2)] := hl
  have hin_RX3 : ∀ w ∈ u_ws RX3 TX3 6, w ∈ wsX3_leastInTurn := by decide +kernel
  unfold wp_X3_leastInTurn at hw
  refine lv_iconst (v := 0) K.1 K.2.1 dX3_leastInTurn_0 (by decide) ?_
  refine lv_istore_n (lv' := [(3, .int (0 : Int32)), (0, .ref a_this), (1, .ref a_p1), (2, .int x2)]) K.1 K.2.1 dX3_leastInTurn_1 rfl hl (by decide) rfl (fun ls hl => ?_)
  refine lv_iconst (v := 1) K.1 K.2.1 dX3_leastInTurn_2 (by decide) ?_
  refine lv_istore (lv' := [(4, .int (1 : Int32)), (3, .int (0 : Int32)), (0, .ref a_this), (1, .ref a_p1), (2, .int x2)]) K.1 K.2.1 dX3_leastInTurn_3 hl (by decide) rfl (fun ls hl => ?_)
  obtain ⟨kx_5, hkx_5, n_5, hw⟩ := Lx1_2_abs hw
  have hX_5 : ∀ (v3_5e : Int32) (H : Heap) (locs : List Loc) (ls : Array Slot), kx_5 v3_5e → HW (dC, dI) A s.heap [(a_p1, .inl (cI, 4, .inl c_p1)), (a_this, .inr (3, [.ref a_this_scores, .ref a_this_points, .ref a_this_counts, .int c_this_size, .ref a_this_ideals, .ref a_this_scales])), (a_this_scores, .inl (cJ, 2000, .inr (.inl c_this_scores)))] H locs → lv_has ls 5 [(3, .int v3_5e)] → W p l e rm_X3_leastInTurn s m args below meth c H locs 0 0 Q (F0 m 35 ls []) := by
    intro v3_5e H locs ls hw hG hl
    have hw := hkx_5 _ hw
    refine lv_iload_n K.1 K.2.1 dX3_leastInTurn_35 rfl (lv_at hl 0 rfl) ?_
    exact hret v3_5e () H locs _ ls dX3_leastInTurn_36 rfl hw hG
  have hL_5 : ∀ (n : Nat), ∀ (v3_5 : Int32) (v4_5 : Int32) (H : Heap) (locs : List Loc) (ls : Array Slot), Lp2 (b_X3_leastInTurn_5 c_p1 c_this_size c_this_scores x2 kx_5) n v3_5 v4_5 → HW (dC, dI) A s.heap [(a_p1, .inl (cI, 4, .inl c_p1)), (a_this, .inr (3, [.ref a_this_scores, .ref a_this_points, .ref a_this_counts, .int c_this_size, .ref a_this_ideals, .ref a_this_scales])), (a_this_scores, .inl (cJ, 2000, .inr (.inl c_this_scores)))] H locs → lv_has ls 5 [(0, .ref a_this), (1, .ref a_p1), (2, .int x2), (3, .int v3_5), (4, .int v4_5)] → W p l e rm_X3_leastInTurn s m args below meth c H locs 0 0 Q (F0 m 5 ls []) := by
    intro n
    induction n with
    | zero => intro v3_5 v4_5 H locs ls hw; exact False.elim hw
    | succ n ih_5 =>
      intro v3_5 v4_5 H locs ls hw hG hl
      obtain ⟨w_5, hw_5, hw⟩ : ∃ w' : Int32 → Int32 → Prop, (∀ v3_5 v4_5, w' v3_5 v4_5 → Lp2 (b_X3_leastInTurn_5 c_p1 c_this_size c_this_scores x2 kx_5) n v3_5 v4_5) ∧ b_X3_leastInTurn_5 c_p1 c_this_size c_this_scores x2 kx_5 w' v3_5 v4_5 := ⟨_, fun _ _ h => h, hw⟩
      replace ih_5 : ∀ (v3_5 : Int32) (v4_5 : Int32) (H : Heap) (locs : List Loc) (ls : Array Slot), w_5 v3_5 v4_5 → HW (dC, dI) A s.heap [(a_p1, .inl (cI, 4, .inl c_p1)), (a_this, .inr (3, [.ref a_this_scores, .ref a_this_points, .ref a_this_counts, .int c_this_size, .ref a_this_ideals, .ref a_this_scales])), (a_this_scores, .inl (cJ, 2000, .inr (.inl c_this_scores)))] H locs → lv_has ls 5 [(0, .ref a_this), (1, .ref a_p1), (2, .int x2), (3, .int v3_5), (4, .int v4_5)] → W p l e rm_X3_leastInTurn s m args below meth c H locs 0 0 Q (F0 m 5 ls []) := fun v3_5 v4_5 H locs ls h => ih_5 v3_5 v4_5 H locs ls (hw_5 _ _ h)
      unfold b_X3_leastInTurn_5 at hw
      refine lv_iload K.1 K.2.1 dX3_leastInTurn_5 (lv_at hl 4 rfl) ?_
      refine lv_aload_n K.1 K.2.1 dX3_leastInTurn_7 rfl (lv_at hl 0 rfl) ?_
      refine g_get (v := .int c_this_size) K hG hin_RX3 1 rfl rfl 3 (by decide) (K.2.2.2.2.1 (.fieldLink RX3 32 "AimFronts$Front" "size" "I") (by decide +kernel)) rfl rfl dX3_leastInTurn_8 ?_
      refine lv_icmp_ge (tgt := 35) K.1 K.2.1 dX3_leastInTurn_11 (by decide) (fun q_11 => ?_) (fun q_11 => ?_)
      · have hw := hw.1 q_11
        exact hX_5 v3_5 H locs ls hw hG (lv_sub hl [3] rfl)
      · have hw := hw.2 q_11
        refine lv_aload_n K.1 K.2.1 dX3_leastInTurn_14 rfl (lv_at hl 0 rfl) ?_
        refine lv_iload K.1 K.2.1 dX3_leastInTurn_15 (lv_at hl 4 rfl) ?_
        refine lv_iload_n K.1 K.2.1 dX3_leastInTurn_17 rfl (lv_at hl 3 rfl) ?_
        refine lv_aload_n K.1 K.2.1 dX3_leastInTurn_18 rfl (lv_at hl 1 rfl) ?_
        refine lv_iload_n K.1 K.2.1 dX3_leastInTurn_19 rfl (lv_at hl 2 rfl) ?_
        refine g_ri K hG [0, 1, 2] rfl (g_runV (As := [.int v4_5, .int v3_5, .ref a_p1, .int x2]) (rest := []) K hG hl [0, 1, 2] rfl rfl 1 rfl rfl (k_X3_isLessInTurn l dC dI cI cJ cZ cG H.size a_p1 a_this a_this_scores a_this_points a_this_counts a_this_ideals a_this_scales c_p1 c_this_scores c_this_size v4_5 v3_5 x2 _ hw) (cwV 4 K.2.2.2.2.1 gX3_leastInTurn_X3_isLessInTurn rfl rfl rfl (by decide +kernel) ⟨by decide, by decide⟩) rfl rfl (Nat.le_of_ble_eq_true rfl) ⟨Nat.zero_le _, Nat.zero_le _⟩ dX3_leastInTurn_20) (fun r_20 H locs hw hG => ?_)
        refine lv_if_eq (tgt := 29) K.1 K.2.1 dX3_leastInTurn_23 (by decide) (fun q_23 => ?_) (fun q_23 => ?_)
        · have hw := hw.1 q_23
          refine lv_iinc (v := (v4_5 + (1 : Int32))) (lv' := [(4, .int (v4_5 + (1 : Int32))), (0, .ref a_this), (1, .ref a_p1), (2, .int x2), (3, .int v3_5)]) K.1 K.2.1 dX3_leastInTurn_29 hl (k := 4) rfl rfl (by decide) rfl (fun ls hl => ?_)
          refine lv_goto (tgt := 5) K.1 K.2.1 dX3_leastInTurn_32 (by decide) ?_
          exact ih_5 v3_5 (v4_5 + (1 : Int32)) H locs ls hw hG (lv_sub hl [1, 2, 3, 4, 0] rfl)
        · have hw := hw.2 q_23
          refine lv_iload K.1 K.2.1 dX3_leastInTurn_26 (lv_at hl 4 rfl) ?_
          refine lv_istore_n (lv' := [(3, .int v4_5), (0, .ref a_this), (1, .ref a_p1), (2, .int x2), (4, .int v4_5)]) K.1 K.2.1 dX3_leastInTurn_28 rfl hl (by decide) rfl (fun ls hl => ?_)
          refine lv_iinc (v := (v4_5 + (1 : Int32))) (lv' := [(4, .int (v4_5 + (1 : Int32))), (3, .int v4_5), (0, .ref a_this), (1, .ref a_p1), (2, .int x2)]) K.1 K.2.1 dX3_leastInTurn_29 hl (k := 4) rfl rfl (by decide) rfl (fun ls hl => ?_)
          refine lv_goto (tgt := 5) K.1 K.2.1 dX3_leastInTurn_32 (by decide) ?_
          exact ih_5 v4_5 (v4_5 + (1 : Int32)) H locs ls hw hG (lv_sub hl [2, 3, 4, 1, 0] rfl)
  exact hL_5 n_5 (0 : Int32) (1 : Int32) H locs ls hw hG (lv_sub hl [2, 3, 4, 1, 0] rfl)
abbrev rm_X6_first : Room := { frames := 5, cells := 0, slots := 0, locals := 115 }
set_option maxHeartbeats 4000000 in
set_option maxRecDepth 100000 in
theorem k_X6_first (l : Launch) (dC : Nat → ClassId) (dI : Nat → Nat → Nat) (cI cJ cZ cG : ClassId) (sz : Nat) (a_this a_this_task a_this_front a_this_cover a_this_behind a_this_climber a_this_numbers a_this_asked a_this_front_scores a_this_front_points a_this_front_counts a_this_front_ideals a_this_front_scales a_this_task_low a_this_task_high a_this_task_right a_this_task_terms a_this_task_from a_this_task_to a_this_task_costs : Nat) (c_this_asked : Nat → Int32) (c_this_front_scores : Nat → Int64) (c_this_front_size : Int32) (c_this_gone : Int32) (c_this_met : Int32) (c_this_task_aims : Int32) (c_this_task_columns : Int32) (c_this_task_points : Int32) (c_this_task_rows : Int32) (x1 : Int32) (x2 : Int32) (x3 : Int32) (x4 : Int32) (post : Int32 → (Nat → Int32) → Prop) (hw : wp_X6_first c_this_asked c_this_front_scores c_this_front_size c_this_task_aims x1 x2 x3 x4 post) : MetI l yX6_first wsX6_first rm_X6_first (dC, dI) cI cJ cZ cG [.ref a_this, .int x1, .int x2, .int x3, .int x4] sz [(a_this, .inr (5, [.ref a_this_task, .ref a_this_front, .ref a_this_cover, .ref a_this_behind, .ref a_this_climber, .ref a_this_numbers, .ref a_this_asked, .int c_this_gone, .int c_this_met])), (a_this_asked, .inl (cI, 4, .inl c_this_asked)), (a_this_front, .inr (3, [.ref a_this_front_scores, .ref a_this_front_points, .ref a_this_front_counts, .int c_this_front_size, .ref a_this_front_ideals, .ref a_this_front_scales])), (a_this_front_scores, .inl (cJ, 2000, .inr (.inl c_this_front_scores))), (a_this_task, .inr (4, [.ref a_this_task_low, .ref a_this_task_high, .ref a_this_task_right, .ref a_this_task_terms, .ref a_this_task_from, .ref a_this_task_to, .ref a_this_task_costs, .int c_this_task_columns, .int c_this_task_rows, .int c_this_task_aims, .int c_this_task_points]))] (fun (r : Int32) (u : (Nat → Int32)) => post r u) (fun u => [(a_this, .inr (5, [.ref a_this_task, .ref a_this_front, .ref a_this_cover, .ref a_this_behind, .ref a_this_climber, .ref a_this_numbers, .ref a_this_asked, .int c_this_gone, .int c_this_met])), (a_this_asked, .inl (cI, 4, .inl u)), (a_this_front, .inr (3, [.ref a_this_front_scores, .ref a_this_front_points, .ref a_this_front_counts, .int c_this_front_size, .ref a_this_front_ideals, .ref a_this_front_scales])), (a_this_front_scores, .inl (cJ, 2000, .inr (.inl c_this_front_scores))), (a_this_task, .inr (4, [.ref a_this_task_low, .ref a_this_task_high, .ref a_this_task_right, .ref a_this_task_terms, .ref a_this_task_from, .ref a_this_task_to, .ref a_this_task_costs, .int c_this_task_columns, .int c_this_task_rows, .int c_this_task_aims, .int c_this_task_points]))]) := by
  refine met_i (ty := .int) (Or.inl rfl) (cc := cX6_first) (maxL := 6) (by decide) rfl (Nat.le_of_ble_eq_true rfl) ?_
  intro p e s m args below meth c A Q H locs ls K hG hl hret
  have hl : lv_has ls 6 [(0, .ref a_this), (1, .int x1), (2, .int x2), (3, .int x3), (4, .int x4)] := hl
  have hin_RX3 : ∀ w ∈ u_ws RX3 TX3 6, w ∈ wsX6_first := by decide +kernel
  have hin_RX5 : ∀ w ∈ u_ws RX5 TX5 11, w ∈ wsX6_first := by decide +kernel
  have hin_RX6 : ∀ w ∈ u_ws RX6 TX6 9, w ∈ wsX6_first := by decide +kernel
  unfold wp_X6_first at hw
  refine lv_aload_n K.1 K.2.1 dX6_first_0 rfl (lv_at hl 0 rfl) ?_
  refine lv_iload_n K.1 K.2.1 dX6_first_1 rfl (lv_at hl 1 rfl) ?_
  refine lv_iload_n K.1 K.2.1 dX6_first_2 rfl (lv_at hl 2 rfl) ?_
  refine lv_iload_n K.1 K.2.1 dX6_first_3 rfl (lv_at hl 3 rfl) ?_
  refine lv_iload K.1 K.2.1 dX6_first_4 (lv_at hl 4 rfl) ?_
  refine g_nv (w2 := (fun u => [(a_this, .inr (5, [.ref a_this_task, .ref a_this_front, .ref a_this_cover, .ref a_this_behind, .ref a_this_climber, .ref a_this_numbers, .ref a_this_asked, .int c_this_gone, .int c_this_met])), (a_this_asked, .inl (cI, 4, .inl u)), (a_this_front, .inr (3, [.ref a_this_front_scores, .ref a_this_front_points, .ref a_this_front_counts, .int c_this_front_size, .ref a_this_front_ideals, .ref a_this_front_scales])), (a_this_front_scores, .inl (cJ, 2000, .inr (.inl c_this_front_scores))), (a_this_task, .inr (4, [.ref a_this_task_low, .ref a_this_task_high, .ref a_this_task_right, .ref a_this_task_terms, .ref a_this_task_from, .ref a_this_task_to, .ref a_this_task_costs, .int c_this_task_columns, .int c_this_task_rows, .int c_this_task_aims, .int c_this_task_points]))])) (wr := [(a_this_front, .inr (3, [.ref a_this_front_scores, .ref a_this_front_points, .ref a_this_front_counts, .int c_this_front_size, .ref a_this_front_ideals, .ref a_this_front_scales])), (a_this_front_scores, .inl (cJ, 2000, .inr (.inl c_this_front_scores))), (a_this_task, .inr (4, [.ref a_this_task_low, .ref a_this_task_high, .ref a_this_task_right, .ref a_this_task_terms, .ref a_this_task_from, .ref a_this_task_to, .ref a_this_task_costs, .int c_this_task_columns, .int c_this_task_rows, .int c_this_task_aims, .int c_this_task_points]))]) K hG [0, 1] [2, 3, 4] 5 rfl (g_runV (As := [.int x1, .int x2, .int x3, .int x4]) (rest := []) K hG hl [0, 1] rfl rfl 0 rfl rfl (k_X6_ask l dC dI cI cJ cZ cG H.size a_this a_this_task a_this_front a_this_cover a_this_behind a_this_climber a_this_numbers a_this_asked c_this_asked c_this_gone c_this_met x1 x2 x3 x4 _ hw) (cwV 4 K.2.2.2.2.1 gX6_first_X6_ask rfl rfl rfl (by decide +kernel) ⟨by decide, by decide⟩) rfl rfl (Nat.le_of_ble_eq_true rfl) ⟨Nat.zero_le _, Nat.zero_le _⟩ dX6_first_6) (fun _ => rfl) (fun _ => rfl) rfl (fun _ => rfl) (fun _ => rfl) (by decide) (by decide) (by decide) (fun u H locs hw hG => ?_)
  obtain ⟨c_this_asked_6, rfl⟩ : ∃ z, z = u := ⟨_, rfl⟩
  have hG : HW (dC, dI) A s.heap [(a_this, .inr (5, [.ref a_this_task, .ref a_this_front, .ref a_this_cover, .ref a_this_behind, .ref a_this_climber, .ref a_this_numbers, .ref a_this_asked, .int c_this_gone, .int c_this_met])), (a_this_asked, .inl (cI, 4, .inl c_this_asked_6)), (a_this_front, .inr (3, [.ref a_this_front_scores, .ref a_this_front_points, .ref a_this_front_counts, .int c_this_front_size, .ref a_this_front_ideals, .ref a_this_front_scales])), (a_this_front_scores, .inl (cJ, 2000, .inr (.inl c_this_front_scores))), (a_this_task, .inr (4, [.ref a_this_task_low, .ref a_this_task_high, .ref a_this_task_right, .ref a_this_task_terms, .ref a_this_task_from, .ref a_this_task_to, .ref a_this_task_costs, .int c_this_task_columns, .int c_this_task_rows, .int c_this_task_aims, .int c_this_task_points]))] H locs := hG
  refine lv_iconst (v := 0) K.1 K.2.1 dX6_first_9 (by decide) ?_
  refine lv_istore (lv' := [(5, .int (0 : Int32)), (0, .ref a_this), (1, .int x1), (2, .int x2), (3, .int x3), (4, .int x4)]) K.1 K.2.1 dX6_first_10 hl (by decide) rfl (fun ls hl => ?_)
  obtain ⟨kx_12, hkx_12, n_12, hw⟩ := Lx1_1_abs hw
  have hX_12 : ∀ (v5_12e : Int32) (H : Heap) (locs : List Loc) (ls : Array Slot), kx_12 v5_12e → HW (dC, dI) A s.heap [(a_this, .inr (5, [.ref a_this_task, .ref a_this_front, .ref a_this_cover, .ref a_this_behind, .ref a_this_climber, .ref a_this_numbers, .ref a_this_asked, .int c_this_gone, .int c_this_met])), (a_this_asked, .inl (cI, 4, .inl c_this_asked_6)), (a_this_front, .inr (3, [.ref a_this_front_scores, .ref a_this_front_points, .ref a_this_front_counts, .int c_this_front_size, .ref a_this_front_ideals, .ref a_this_front_scales])), (a_this_front_scores, .inl (cJ, 2000, .inr (.inl c_this_front_scores))), (a_this_task, .inr (4, [.ref a_this_task_low, .ref a_this_task_high, .ref a_this_task_right, .ref a_this_task_terms, .ref a_this_task_from, .ref a_this_task_to, .ref a_this_task_costs, .int c_this_task_columns, .int c_this_task_rows, .int c_this_task_aims, .int c_this_task_points]))] H locs → lv_has ls 6 [(0, .ref a_this), (5, .int v5_12e)] → W p l e rm_X6_first s m args below meth c H locs 0 0 Q (F0 m 59 ls []) := by
    intro v5_12e H locs ls hw hG hl
    have hw := hkx_12 _ hw
    refine lv_aload_n K.1 K.2.1 dX6_first_59 rfl (lv_at hl 0 rfl) ?_
    refine g_get (v := .ref a_this_front) K hG hin_RX6 0 rfl rfl 1 (by decide) (K.2.2.2.2.1 (.fieldLink RX6 19 "AimFronts" "front" "LAimFronts$Front;") (by decide +kernel)) rfl rfl dX6_first_60 ?_
    refine g_get (v := .int c_this_front_size) K hG hin_RX3 2 rfl rfl 3 (by decide) (K.2.2.2.2.1 (.fieldLink RX6 121 "AimFronts$Front" "size" "I") (by decide +kernel)) rfl rfl dX6_first_63 ?_
    refine lv_if_ne (tgt := 74) K.1 K.2.1 dX6_first_66 (by decide) (fun q_66 => ?_) (fun q_66 => ?_)
    · have hw := hw.2 q_66
      refine lv_aload_n K.1 K.2.1 dX6_first_74 rfl (lv_at hl 0 rfl) ?_
      refine g_get (v := .ref a_this_front) K hG hin_RX6 0 rfl rfl 1 (by decide) (K.2.2.2.2.1 (.fieldLink RX6 19 "AimFronts" "front" "LAimFronts$Front;") (by decide +kernel)) rfl rfl dX6_first_75 ?_
      refine lv_aload_n K.1 K.2.1 dX6_first_78 rfl (lv_at hl 0 rfl) ?_
      refine g_get (v := .ref a_this_asked) K hG hin_RX6 0 rfl rfl 6 (by decide) (K.2.2.2.2.1 (.fieldLink RX6 48 "AimFronts" "asked" "[I") (by decide +kernel)) rfl rfl dX6_first_79 ?_
      refine lv_iload K.1 K.2.1 dX6_first_82 (lv_at hl 1 rfl) ?_
      refine g_ri K hG [1, 2, 3] rfl (g_runV (As := [.ref a_this_asked, .int v5_12e]) (rest := []) K hG hl [1, 2, 3] rfl rfl 2 rfl rfl (k_X3_leastInTurn l dC dI cI cJ cZ cG H.size a_this_asked a_this_front a_this_front_scores a_this_front_points a_this_front_counts a_this_front_ideals a_this_front_scales c_this_asked_6 c_this_front_scores c_this_front_size v5_12e _ hw) (cwV 2 K.2.2.2.2.1 gX6_first_X3_leastInTurn rfl rfl rfl (by decide +kernel) ⟨by decide, by decide⟩) rfl rfl (Nat.le_of_ble_eq_true rfl) ⟨Nat.zero_le _, Nat.zero_le _⟩ dX6_first_84) (fun r_84 H locs hw hG => ?_)
      exact hret r_84 c_this_asked_6 H locs _ ls dX6_first_87 rfl hw hG
    · have hw := hw.1 q_66
      refine lv_ldc (v := -1000002) K.1 K.2.1 K.2.2.2.1 (K.2.2.2.2.1 (.constant RX6 104 (-1000002)) (by decide +kernel)) dX6_first_69 ?_
      refine lv_goto (tgt := 87) K.1 K.2.1 dX6_first_71 (by decide) ?_
      exact hret (-1000002 : Int32) c_this_asked_6 H locs _ ls dX6_first_87 rfl hw hG
  have hL_12 : ∀ (n : Nat), ∀ (v5_12 : Int32) (H : Heap) (locs : List Loc) (ls : Array Slot), Lp1 (b_X6_first_12 c_this_task_aims post c_this_asked_6 kx_12) n v5_12 → HW (dC, dI) A s.heap [(a_this, .inr (5, [.ref a_this_task, .ref a_this_front, .ref a_this_cover, .ref a_this_behind, .ref a_this_climber, .ref a_this_numbers, .ref a_this_asked, .int c_this_gone, .int c_this_met])), (a_this_asked, .inl (cI, 4, .inl c_this_asked_6)), (a_this_front, .inr (3, [.ref a_this_front_scores, .ref a_this_front_points, .ref a_this_front_counts, .int c_this_front_size, .ref a_this_front_ideals, .ref a_this_front_scales])), (a_this_front_scores, .inl (cJ, 2000, .inr (.inl c_this_front_scores))), (a_this_task, .inr (4, [.ref a_this_task_low, .ref a_this_task_high, .ref a_this_task_right, .ref a_this_task_terms, .ref a_this_task_from, .ref a_this_task_to, .ref a_this_task_costs, .int c_this_task_columns, .int c_this_task_rows, .int c_this_task_aims, .int c_this_task_points]))] H locs → lv_has ls 6 [(0, .ref a_this), (5, .int v5_12)] → W p l e rm_X6_first s m args below meth c H locs 0 0 Q (F0 m 12 ls []) := by
    intro n
    induction n with
    | zero => intro v5_12 H locs ls hw; exact False.elim hw
    | succ n ih_12 =>
      intro v5_12 H locs ls hw hG hl
      obtain ⟨w_12, hw_12, hw⟩ : ∃ w' : Int32 → Prop, (∀ v5_12, w' v5_12 → Lp1 (b_X6_first_12 c_this_task_aims post c_this_asked_6 kx_12) n v5_12) ∧ b_X6_first_12 c_this_task_aims post c_this_asked_6 kx_12 w' v5_12 := ⟨_, fun _ h => h, hw⟩
      replace ih_12 : ∀ (v5_12 : Int32) (H : Heap) (locs : List Loc) (ls : Array Slot), w_12 v5_12 → HW (dC, dI) A s.heap [(a_this, .inr (5, [.ref a_this_task, .ref a_this_front, .ref a_this_cover, .ref a_this_behind, .ref a_this_climber, .ref a_this_numbers, .ref a_this_asked, .int c_this_gone, .int c_this_met])), (a_this_asked, .inl (cI, 4, .inl c_this_asked_6)), (a_this_front, .inr (3, [.ref a_this_front_scores, .ref a_this_front_points, .ref a_this_front_counts, .int c_this_front_size, .ref a_this_front_ideals, .ref a_this_front_scales])), (a_this_front_scores, .inl (cJ, 2000, .inr (.inl c_this_front_scores))), (a_this_task, .inr (4, [.ref a_this_task_low, .ref a_this_task_high, .ref a_this_task_right, .ref a_this_task_terms, .ref a_this_task_from, .ref a_this_task_to, .ref a_this_task_costs, .int c_this_task_columns, .int c_this_task_rows, .int c_this_task_aims, .int c_this_task_points]))] H locs → lv_has ls 6 [(0, .ref a_this), (5, .int v5_12)] → W p l e rm_X6_first s m args below meth c H locs 0 0 Q (F0 m 12 ls []) := fun v5_12 H locs ls h => ih_12 v5_12 H locs ls (hw_12 _ h)
      unfold b_X6_first_12 at hw
      refine lv_iload K.1 K.2.1 dX6_first_12 (lv_at hl 1 rfl) ?_
      refine lv_iconst (v := 4) K.1 K.2.1 dX6_first_14 (by decide) ?_
      refine lv_icmp_ge (tgt := 59) K.1 K.2.1 dX6_first_15 (by decide) (fun q_15 => ?_) (fun q_15 => ?_)
      · have hw := hw.1 q_15
        exact hX_12 v5_12 H locs ls hw hG (lv_sub hl [0, 1] rfl)
      · have hw := hw.2 q_15
        refine lv_aload_n K.1 K.2.1 dX6_first_18 rfl (lv_at hl 0 rfl) ?_
        refine g_get (v := .ref a_this_asked) K hG hin_RX6 0 rfl rfl 6 (by decide) (K.2.2.2.2.1 (.fieldLink RX6 48 "AimFronts" "asked" "[I") (by decide +kernel)) rfl rfl dX6_first_19 ?_
        refine lv_iload K.1 K.2.1 dX6_first_22 (lv_at hl 1 rfl) ?_
        obtain ⟨h_24, hw⟩ := hw
        refine g_iald K hG 1 rfl h_24 dX6_first_24 ?_
        refine lv_ldc (v := -1000000) K.1 K.2.1 K.2.2.2.1 (K.2.2.2.2.1 (.constant RX6 156 (-1000000)) (by decide +kernel)) dX6_first_25 ?_
        refine lv_icmp_eq (tgt := 59) K.1 K.2.1 dX6_first_27 (by decide) (fun q_27 => ?_) (fun q_27 => ?_)
        · have hw := hw.1 q_27
          exact hX_12 v5_12 H locs ls hw hG (lv_sub hl [0, 1] rfl)
        · have hw := hw.2 q_27
          refine lv_aload_n K.1 K.2.1 dX6_first_30 rfl (lv_at hl 0 rfl) ?_
          refine g_get (v := .ref a_this_asked) K hG hin_RX6 0 rfl rfl 6 (by decide) (K.2.2.2.2.1 (.fieldLink RX6 48 "AimFronts" "asked" "[I") (by decide +kernel)) rfl rfl dX6_first_31 ?_
          refine lv_iload K.1 K.2.1 dX6_first_34 (lv_at hl 1 rfl) ?_
          obtain ⟨h_36, hw⟩ := hw
          refine g_iald K hG 1 rfl h_36 dX6_first_36 ?_
          refine lv_aload_n K.1 K.2.1 dX6_first_37 rfl (lv_at hl 0 rfl) ?_
          refine g_get (v := .ref a_this_task) K hG hin_RX6 0 rfl rfl 0 (by decide) (K.2.2.2.2.1 (.fieldLink RX6 10 "AimFronts" "task" "LAimFronts$Task;") (by decide +kernel)) rfl rfl dX6_first_38 ?_
          refine g_get (v := .int c_this_task_aims) K hG hin_RX5 4 rfl rfl 9 (by decide) (K.2.2.2.2.1 (.fieldLink RX6 85 "AimFronts$Task" "aims" "I") (by decide +kernel)) rfl rfl dX6_first_41 ?_
          refine g_ri K hG [] rfl (g_runS (As := [.int (c_this_asked_6 (v5_12).toNatClampNeg), .int c_this_task_aims]) (rest := []) K hG hl [] rfl rfl (k_X6_among l dC dI cI cJ cZ cG H.size (c_this_asked_6 (v5_12).toNatClampNeg) c_this_task_aims _ hw) (va_cwS 2 K.2.2.2.2.1 gX6_first_X6_among rfl rfl rfl (by decide +kernel) ⟨by decide, by decide⟩) rfl rfl (Nat.le_of_ble_eq_true rfl) ⟨Nat.zero_le _, Nat.zero_le _⟩ dX6_first_44) (fun r_44 H locs hw hG => ?_)
          refine lv_if_ne (tgt := 53) K.1 K.2.1 dX6_first_47 (by decide) (fun q_47 => ?_) (fun q_47 => ?_)
          · have hw := hw.2 q_47
            refine lv_iinc (v := (v5_12 + (1 : Int32))) (lv' := [(5, .int (v5_12 + (1 : Int32))), (0, .ref a_this)]) K.1 K.2.1 dX6_first_53 hl (k := 1) rfl rfl (by decide) rfl (fun ls hl => ?_)
            refine lv_goto (tgt := 12) K.1 K.2.1 dX6_first_56 (by decide) ?_
            exact ih_12 (v5_12 + (1 : Int32)) H locs ls hw hG (lv_sub hl [1, 0] rfl)
          · have hw := hw.1 q_47
            refine lv_ldc (v := -1000001) K.1 K.2.1 K.2.2.2.1 (K.2.2.2.2.1 (.constant RX6 55 (-1000001)) (by decide +kernel)) dX6_first_50 ?_
            exact hret (-1000001 : Int32) c_this_asked_6 H locs _ ls dX6_first_52 rfl hw hG
  exact hL_12 n_12 (0 : Int32) H locs ls hw hG (lv_sub hl [1, 0] rfl)
abbrev rm_X3_firstUnder : Room := { frames := 2, cells := 0, slots := 0, locals := 41 }
set_option maxHeartbeats 4000000 in
set_option maxRecDepth 100000 in
theorem k_X3_firstUnder (l : Launch) (dC : Nat → ClassId) (dI : Nat → Nat → Nat) (cI cJ cZ cG : ClassId) (sz : Nat) (a_p1 a_this a_this_scores a_this_points a_this_counts a_this_ideals a_this_scales : Nat) (c_p1 : Nat → Int32) (c_this_scores : Nat → Int64) (c_this_size : Int32) (x2 : Int32) (post : Int32 → Prop) (hw : wp_X3_firstUnder c_p1 c_this_scores c_this_size x2 post) : MetI l yX3_firstUnder wsX3_firstUnder rm_X3_firstUnder (dC, dI) cI cJ cZ cG [.ref a_this, .ref a_p1, .int x2] sz [(a_p1, .inl (cI, 4, .inl c_p1)), (a_this, .inr (3, [.ref a_this_scores, .ref a_this_points, .ref a_this_counts, .int c_this_size, .ref a_this_ideals, .ref a_this_scales])), (a_this_scores, .inl (cJ, 2000, .inr (.inl c_this_scores)))] (fun (r : Int32) (u : Unit) => post r) (fun u => [(a_p1, .inl (cI, 4, .inl c_p1)), (a_this, .inr (3, [.ref a_this_scores, .ref a_this_points, .ref a_this_counts, .int c_this_size, .ref a_this_ideals, .ref a_this_scales])), (a_this_scores, .inl (cJ, 2000, .inr (.inl c_this_scores)))]) := by
  refine met_i (ty := .int) (Or.inl rfl) (cc := cX3_firstUnder) (maxL := 7) (by decide) rfl (Nat.le_of_ble_eq_true rfl) ?_
  intro p e s m args below meth c A Q H locs ls K hG hl hret
  have hl : lv_has ls 7 [(0, .ref a_this), (1, .ref a_p1), (2, .int x2)] := hl
  have hin_RX3 : ∀ w ∈ u_ws RX3 TX3 6, w ∈ wsX3_firstUnder := by decide +kernel
  unfold wp_X3_firstUnder at hw
  refine lv_lconst (v := 0) K.1 K.2.1 dX3_firstUnder_0 (by decide) ?_
  refine lv_lstore_n (lv' := [(3, .long (0 : Int64)), (0, .ref a_this), (1, .ref a_p1), (2, .int x2)]) K.1 K.2.1 dX3_firstUnder_1 rfl hl (by decide) rfl (fun ls hl => ?_)
  refine lv_iconst (v := 0) K.1 K.2.1 dX3_firstUnder_2 (by decide) ?_
  refine lv_istore (lv' := [(5, .int (0 : Int32)), (3, .long (0 : Int64)), (0, .ref a_this), (1, .ref a_p1), (2, .int x2)]) K.1 K.2.1 dX3_firstUnder_3 hl (by decide) rfl (fun ls hl => ?_)
  obtain ⟨kx_5, hkx_5, n_5, hw⟩ := Lx1_2_abs hw
  have hX_5 : ∀ (v3_5e : Int64) (H : Heap) (locs : List Loc) (ls : Array Slot), kx_5 v3_5e → HW (dC, dI) A s.heap [(a_p1, .inl (cI, 4, .inl c_p1)), (a_this, .inr (3, [.ref a_this_scores, .ref a_this_points, .ref a_this_counts, .int c_this_size, .ref a_this_ideals, .ref a_this_scales])), (a_this_scores, .inl (cJ, 2000, .inr (.inl c_this_scores)))] H locs → lv_has ls 7 [(0, .ref a_this), (3, .long v3_5e)] → W p l e rm_X3_firstUnder s m args below meth c H locs 0 0 Q (F0 m 45 ls []) := by
    intro v3_5e H locs ls hw hG hl
    have hw := hkx_5 _ hw
    refine lv_iconst (v := 0) K.1 K.2.1 dX3_firstUnder_45 (by decide) ?_
    refine lv_istore (lv' := [(5, .int (0 : Int32)), (0, .ref a_this), (3, .long v3_5e)]) K.1 K.2.1 dX3_firstUnder_46 hl (by decide) rfl (fun ls hl => ?_)
    obtain ⟨kx_48, hkx_48, n_48, hw⟩ := Lx0_1_abs hw
    have hX_48 : ∀  (H : Heap) (locs : List Loc) (ls : Array Slot), kx_48 → HW (dC, dI) A s.heap [(a_p1, .inl (cI, 4, .inl c_p1)), (a_this, .inr (3, [.ref a_this_scores, .ref a_this_points, .ref a_this_counts, .int c_this_size, .ref a_this_ideals, .ref a_this_scales])), (a_this_scores, .inl (cJ, 2000, .inr (.inl c_this_scores)))] H locs → lv_has ls 7 [] → W p l e rm_X3_firstUnder s m args below meth c H locs 0 0 Q (F0 m 80 ls []) := by
      intro H locs ls hw hG hl
      have hw := hkx_48 hw
      refine lv_ldc (v := -1000000) K.1 K.2.1 K.2.2.2.1 (K.2.2.2.2.1 (.constant RX3 108 (-1000000)) (by decide +kernel)) dX3_firstUnder_80 ?_
      exact hret (-1000000 : Int32) () H locs _ ls dX3_firstUnder_82 rfl hw hG
    have hL_48 : ∀ (n : Nat), ∀ (v5_48 : Int32) (H : Heap) (locs : List Loc) (ls : Array Slot), Lp1 (b_X3_firstUnder_48 c_this_size c_this_scores post v3_5e kx_48) n v5_48 → HW (dC, dI) A s.heap [(a_p1, .inl (cI, 4, .inl c_p1)), (a_this, .inr (3, [.ref a_this_scores, .ref a_this_points, .ref a_this_counts, .int c_this_size, .ref a_this_ideals, .ref a_this_scales])), (a_this_scores, .inl (cJ, 2000, .inr (.inl c_this_scores)))] H locs → lv_has ls 7 [(0, .ref a_this), (3, .long v3_5e), (5, .int v5_48)] → W p l e rm_X3_firstUnder s m args below meth c H locs 0 0 Q (F0 m 48 ls []) := by
      intro n
      induction n with
      | zero => intro v5_48 H locs ls hw; exact False.elim hw
      | succ n ih_48 =>
        intro v5_48 H locs ls hw hG hl
        obtain ⟨w_48, hw_48, hw⟩ : ∃ w' : Int32 → Prop, (∀ v5_48, w' v5_48 → Lp1 (b_X3_firstUnder_48 c_this_size c_this_scores post v3_5e kx_48) n v5_48) ∧ b_X3_firstUnder_48 c_this_size c_this_scores post v3_5e kx_48 w' v5_48 := ⟨_, fun _ h => h, hw⟩
        replace ih_48 : ∀ (v5_48 : Int32) (H : Heap) (locs : List Loc) (ls : Array Slot), w_48 v5_48 → HW (dC, dI) A s.heap [(a_p1, .inl (cI, 4, .inl c_p1)), (a_this, .inr (3, [.ref a_this_scores, .ref a_this_points, .ref a_this_counts, .int c_this_size, .ref a_this_ideals, .ref a_this_scales])), (a_this_scores, .inl (cJ, 2000, .inr (.inl c_this_scores)))] H locs → lv_has ls 7 [(0, .ref a_this), (3, .long v3_5e), (5, .int v5_48)] → W p l e rm_X3_firstUnder s m args below meth c H locs 0 0 Q (F0 m 48 ls []) := fun v5_48 H locs ls h => ih_48 v5_48 H locs ls (hw_48 _ h)
        unfold b_X3_firstUnder_48 at hw
        refine lv_iload K.1 K.2.1 dX3_firstUnder_48 (lv_at hl 2 rfl) ?_
        refine lv_aload_n K.1 K.2.1 dX3_firstUnder_50 rfl (lv_at hl 0 rfl) ?_
        refine g_get (v := .int c_this_size) K hG hin_RX3 1 rfl rfl 3 (by decide) (K.2.2.2.2.1 (.fieldLink RX3 32 "AimFronts$Front" "size" "I") (by decide +kernel)) rfl rfl dX3_firstUnder_51 ?_
        refine lv_icmp_ge (tgt := 80) K.1 K.2.1 dX3_firstUnder_54 (by decide) (fun q_54 => ?_) (fun q_54 => ?_)
        · have hw := hw.1 q_54
          exact hX_48 H locs ls hw hG (lv_sub hl [] rfl)
        · have hw := hw.2 q_54
          refine lv_aload_n K.1 K.2.1 dX3_firstUnder_57 rfl (lv_at hl 0 rfl) ?_
          refine g_get (v := .ref a_this_scores) K hG hin_RX3 1 rfl rfl 0 (by decide) (K.2.2.2.2.1 (.fieldLink RX3 9 "AimFronts$Front" "scores" "[J") (by decide +kernel)) rfl rfl dX3_firstUnder_58 ?_
          refine lv_iload K.1 K.2.1 dX3_firstUnder_61 (lv_at hl 2 rfl) ?_
          obtain ⟨h_63, hw⟩ := hw
          refine g_lald K hG 2 rfl h_63 dX3_firstUnder_63 ?_
          refine lv_lload_n K.1 K.2.1 dX3_firstUnder_64 rfl (lv_at hl 1 rfl) ?_
          refine g_ri K hG [] rfl (g_runS (As := [.long (c_this_scores (v5_48).toNatClampNeg), .long v3_5e]) (rest := []) K hG hl [] rfl rfl (k_X4_inNoneGreater l dC dI cI cJ cZ cG H.size (c_this_scores (v5_48).toNatClampNeg) v3_5e _ hw) (va_cwS 2 K.2.2.2.2.1 gX3_firstUnder_X4_inNoneGreater rfl rfl rfl (by decide +kernel) ⟨by decide, by decide⟩) rfl rfl (Nat.le_of_ble_eq_true rfl) ⟨Nat.zero_le _, Nat.zero_le _⟩ dX3_firstUnder_65) (fun r_65 H locs hw hG => ?_)
          refine lv_if_eq (tgt := 74) K.1 K.2.1 dX3_firstUnder_68 (by decide) (fun q_68 => ?_) (fun q_68 => ?_)
          · have hw := hw.1 q_68
            refine lv_iinc (v := (v5_48 + (1 : Int32))) (lv' := [(5, .int (v5_48 + (1 : Int32))), (0, .ref a_this), (3, .long v3_5e)]) K.1 K.2.1 dX3_firstUnder_74 hl (k := 2) rfl rfl (by decide) rfl (fun ls hl => ?_)
            refine lv_goto (tgt := 48) K.1 K.2.1 dX3_firstUnder_77 (by decide) ?_
            exact ih_48 (v5_48 + (1 : Int32)) H locs ls hw hG (lv_sub hl [1, 2, 0] rfl)
          · have hw := hw.2 q_68
            refine lv_iload K.1 K.2.1 dX3_firstUnder_71 (lv_at hl 2 rfl) ?_
            exact hret v5_48 () H locs _ ls dX3_firstUnder_73 rfl hw hG
    exact hL_48 n_48 (0 : Int32) H locs ls hw hG (lv_sub hl [1, 2, 0] rfl)
  have hL_5 : ∀ (n : Nat), ∀ (v3_5 : Int64) (v5_5 : Int32) (H : Heap) (locs : List Loc) (ls : Array Slot), Lp2 (b_X3_firstUnder_5 c_p1 x2 kx_5) n v3_5 v5_5 → HW (dC, dI) A s.heap [(a_p1, .inl (cI, 4, .inl c_p1)), (a_this, .inr (3, [.ref a_this_scores, .ref a_this_points, .ref a_this_counts, .int c_this_size, .ref a_this_ideals, .ref a_this_scales])), (a_this_scores, .inl (cJ, 2000, .inr (.inl c_this_scores)))] H locs → lv_has ls 7 [(0, .ref a_this), (1, .ref a_p1), (2, .int x2), (3, .long v3_5), (5, .int v5_5)] → W p l e rm_X3_firstUnder s m args below meth c H locs 0 0 Q (F0 m 5 ls []) := by
    intro n
    induction n with
    | zero => intro v3_5 v5_5 H locs ls hw; exact False.elim hw
    | succ n ih_5 =>
      intro v3_5 v5_5 H locs ls hw hG hl
      obtain ⟨w_5, hw_5, hw⟩ : ∃ w' : Int64 → Int32 → Prop, (∀ v3_5 v5_5, w' v3_5 v5_5 → Lp2 (b_X3_firstUnder_5 c_p1 x2 kx_5) n v3_5 v5_5) ∧ b_X3_firstUnder_5 c_p1 x2 kx_5 w' v3_5 v5_5 := ⟨_, fun _ _ h => h, hw⟩
      replace ih_5 : ∀ (v3_5 : Int64) (v5_5 : Int32) (H : Heap) (locs : List Loc) (ls : Array Slot), w_5 v3_5 v5_5 → HW (dC, dI) A s.heap [(a_p1, .inl (cI, 4, .inl c_p1)), (a_this, .inr (3, [.ref a_this_scores, .ref a_this_points, .ref a_this_counts, .int c_this_size, .ref a_this_ideals, .ref a_this_scales])), (a_this_scores, .inl (cJ, 2000, .inr (.inl c_this_scores)))] H locs → lv_has ls 7 [(0, .ref a_this), (1, .ref a_p1), (2, .int x2), (3, .long v3_5), (5, .int v5_5)] → W p l e rm_X3_firstUnder s m args below meth c H locs 0 0 Q (F0 m 5 ls []) := fun v3_5 v5_5 H locs ls h => ih_5 v3_5 v5_5 H locs ls (hw_5 _ _ h)
      unfold b_X3_firstUnder_5 at hw
      refine lv_iload K.1 K.2.1 dX3_firstUnder_5 (lv_at hl 4 rfl) ?_
      refine lv_iload_n K.1 K.2.1 dX3_firstUnder_7 rfl (lv_at hl 2 rfl) ?_
      refine lv_icmp_ge (tgt := 45) K.1 K.2.1 dX3_firstUnder_8 (by decide) (fun q_8 => ?_) (fun q_8 => ?_)
      · have hw := hw.1 q_8
        exact hX_5 v3_5 H locs ls hw hG (lv_sub hl [0, 3] rfl)
      · have hw := hw.2 q_8
        refine lv_sipush (v := -2001) K.1 K.2.1 dX3_firstUnder_11 (by decide) ?_
        refine lv_sipush (v := 2000) K.1 K.2.1 dX3_firstUnder_14 (by decide) ?_
        refine lv_aload_n K.1 K.2.1 dX3_firstUnder_17 rfl (lv_at hl 1 rfl) ?_
        refine lv_iload K.1 K.2.1 dX3_firstUnder_18 (lv_at hl 4 rfl) ?_
        obtain ⟨h_20, hw⟩ := hw
        refine g_iald K hG 0 rfl h_20 dX3_firstUnder_20 ?_
        refine va_mmin K.1 K.2.1 (K.2.2.1.trans hl.1.symm) K.2.2.2.1 (K.2.2.2.2.1 (.methodLink RX3 71 Lib.Math.min.name) (by decide +kernel)) (K.2.2.2.2.1 (.static Lib.Math.min.name) (by decide +kernel)) (K.2.2.2.2.1 (.initialized "java/lang/Math") (by decide +kernel)) (K.2.2.2.2.1 (.code Lib.Math.min.name Lib.Math.min.code 2 (some .int)) (by decide +kernel)) (Nat.le_of_ble_eq_true rfl) (Nat.le_of_ble_eq_true rfl) (Nat.zero_le _) (Nat.zero_le _) dX3_firstUnder_21 ?_
        refine va_mmax K.1 K.2.1 (K.2.2.1.trans hl.1.symm) K.2.2.2.1 (K.2.2.2.2.1 (.methodLink RX3 76 Lib.Math.max.name) (by decide +kernel)) (K.2.2.2.2.1 (.static Lib.Math.max.name) (by decide +kernel)) (K.2.2.2.2.1 (.initialized "java/lang/Math") (by decide +kernel)) (K.2.2.2.2.1 (.code Lib.Math.max.name Lib.Math.max.code 2 (some .int)) (by decide +kernel)) (Nat.le_of_ble_eq_true rfl) (Nat.le_of_ble_eq_true rfl) (Nat.zero_le _) (Nat.zero_le _) dX3_firstUnder_24 ?_
        refine lv_istore (lv' := [(6, .int (if (-2001 : Int32) < (if (c_p1 (v5_5).toNatClampNeg) < (2000 : Int32) then (c_p1 (v5_5).toNatClampNeg) else (2000 : Int32)) then (if (c_p1 (v5_5).toNatClampNeg) < (2000 : Int32) then (c_p1 (v5_5).toNatClampNeg) else (2000 : Int32)) else (-2001 : Int32))), (0, .ref a_this), (1, .ref a_p1), (2, .int x2), (3, .long v3_5), (5, .int v5_5)]) K.1 K.2.1 dX3_firstUnder_27 hl (by decide) rfl (fun ls hl => ?_)
        refine lv_lload_n K.1 K.2.1 dX3_firstUnder_29 rfl (lv_at hl 4 rfl) ?_
        refine lv_iload K.1 K.2.1 dX3_firstUnder_30 (lv_at hl 5 rfl) ?_
        refine lv_iload K.1 K.2.1 dX3_firstUnder_32 (lv_at hl 0 rfl) ?_
        refine g_rl K hG [] rfl (g_runS (As := [.int v5_5, .int (if (-2001 : Int32) < (if (c_p1 (v5_5).toNatClampNeg) < (2000 : Int32) then (c_p1 (v5_5).toNatClampNeg) else (2000 : Int32)) then (if (c_p1 (v5_5).toNatClampNeg) < (2000 : Int32) then (c_p1 (v5_5).toNatClampNeg) else (2000 : Int32)) else (-2001 : Int32))]) (rest := [.long v3_5]) K hG hl [] rfl rfl (k_X4_lane l dC dI cI cJ cZ cG H.size v5_5 (if (-2001 : Int32) < (if (c_p1 (v5_5).toNatClampNeg) < (2000 : Int32) then (c_p1 (v5_5).toNatClampNeg) else (2000 : Int32)) then (if (c_p1 (v5_5).toNatClampNeg) < (2000 : Int32) then (c_p1 (v5_5).toNatClampNeg) else (2000 : Int32)) else (-2001 : Int32)) _ hw) (va_cwS 2 K.2.2.2.2.1 gX3_firstUnder_X4_lane rfl rfl rfl (by decide +kernel) ⟨by decide, by decide⟩) rfl rfl (Nat.le_of_ble_eq_true rfl) ⟨Nat.zero_le _, Nat.zero_le _⟩ dX3_firstUnder_34) (fun r_34 H locs hw hG => ?_)
        refine lv_ladd K.1 K.2.1 dX3_firstUnder_37 ?_
        refine lv_lstore_n (lv' := [(3, .long (v3_5 + r_34)), (6, .int (if (-2001 : Int32) < (if (c_p1 (v5_5).toNatClampNeg) < (2000 : Int32) then (c_p1 (v5_5).toNatClampNeg) else (2000 : Int32)) then (if (c_p1 (v5_5).toNatClampNeg) < (2000 : Int32) then (c_p1 (v5_5).toNatClampNeg) else (2000 : Int32)) else (-2001 : Int32))), (0, .ref a_this), (1, .ref a_p1), (2, .int x2), (5, .int v5_5)]) K.1 K.2.1 dX3_firstUnder_38 rfl hl (by decide) rfl (fun ls hl => ?_)
        refine lv_iinc (v := (v5_5 + (1 : Int32))) (lv' := [(5, .int (v5_5 + (1 : Int32))), (3, .long (v3_5 + r_34)), (6, .int (if (-2001 : Int32) < (if (c_p1 (v5_5).toNatClampNeg) < (2000 : Int32) then (c_p1 (v5_5).toNatClampNeg) else (2000 : Int32)) then (if (c_p1 (v5_5).toNatClampNeg) < (2000 : Int32) then (c_p1 (v5_5).toNatClampNeg) else (2000 : Int32)) else (-2001 : Int32))), (0, .ref a_this), (1, .ref a_p1), (2, .int x2)]) K.1 K.2.1 dX3_firstUnder_39 hl (k := 5) rfl rfl (by decide) rfl (fun ls hl => ?_)
        refine lv_goto (tgt := 5) K.1 K.2.1 dX3_firstUnder_42 (by decide) ?_
        exact ih_5 (v3_5 + r_34) (v5_5 + (1 : Int32)) H locs ls hw hG (lv_sub hl [3, 4, 5, 1, 0] rfl)
  exact hL_5 n_5 (0 : Int64) (0 : Int32) H locs ls hw hG (lv_sub hl [2, 3, 4, 1, 0] rfl)
abbrev rm_X6_under : Room := { frames := 3, cells := 0, slots := 0, locals := 67 }
set_option maxHeartbeats 4000000 in
set_option maxRecDepth 100000 in
theorem k_X6_under (l : Launch) (dC : Nat → ClassId) (dI : Nat → Nat → Nat) (cI cJ cZ cG : ClassId) (sz : Nat) (a_this a_this_task a_this_front a_this_cover a_this_behind a_this_climber a_this_numbers a_this_asked a_this_front_scores a_this_front_points a_this_front_counts a_this_front_ideals a_this_front_scales a_this_task_low a_this_task_high a_this_task_right a_this_task_terms a_this_task_from a_this_task_to a_this_task_costs : Nat) (c_this_asked : Nat → Int32) (c_this_front_scores : Nat → Int64) (c_this_front_size : Int32) (c_this_gone : Int32) (c_this_met : Int32) (c_this_task_aims : Int32) (c_this_task_columns : Int32) (c_this_task_points : Int32) (c_this_task_rows : Int32) (x1 : Int32) (x2 : Int32) (x3 : Int32) (x4 : Int32) (post : Int32 → (Nat → Int32) → Prop) (hw : wp_X6_under c_this_asked c_this_front_scores c_this_front_size c_this_task_aims x1 x2 x3 x4 post) : MetI l yX6_under wsX6_under rm_X6_under (dC, dI) cI cJ cZ cG [.ref a_this, .int x1, .int x2, .int x3, .int x4] sz [(a_this, .inr (5, [.ref a_this_task, .ref a_this_front, .ref a_this_cover, .ref a_this_behind, .ref a_this_climber, .ref a_this_numbers, .ref a_this_asked, .int c_this_gone, .int c_this_met])), (a_this_asked, .inl (cI, 4, .inl c_this_asked)), (a_this_front, .inr (3, [.ref a_this_front_scores, .ref a_this_front_points, .ref a_this_front_counts, .int c_this_front_size, .ref a_this_front_ideals, .ref a_this_front_scales])), (a_this_front_scores, .inl (cJ, 2000, .inr (.inl c_this_front_scores))), (a_this_task, .inr (4, [.ref a_this_task_low, .ref a_this_task_high, .ref a_this_task_right, .ref a_this_task_terms, .ref a_this_task_from, .ref a_this_task_to, .ref a_this_task_costs, .int c_this_task_columns, .int c_this_task_rows, .int c_this_task_aims, .int c_this_task_points]))] (fun (r : Int32) (u : (Nat → Int32)) => post r u) (fun u => [(a_this, .inr (5, [.ref a_this_task, .ref a_this_front, .ref a_this_cover, .ref a_this_behind, .ref a_this_climber, .ref a_this_numbers, .ref a_this_asked, .int c_this_gone, .int c_this_met])), (a_this_asked, .inl (cI, 4, .inl u)), (a_this_front, .inr (3, [.ref a_this_front_scores, .ref a_this_front_points, .ref a_this_front_counts, .int c_this_front_size, .ref a_this_front_ideals, .ref a_this_front_scales])), (a_this_front_scores, .inl (cJ, 2000, .inr (.inl c_this_front_scores))), (a_this_task, .inr (4, [.ref a_this_task_low, .ref a_this_task_high, .ref a_this_task_right, .ref a_this_task_terms, .ref a_this_task_from, .ref a_this_task_to, .ref a_this_task_costs, .int c_this_task_columns, .int c_this_task_rows, .int c_this_task_aims, .int c_this_task_points]))]) := by
  refine met_i (ty := .int) (Or.inl rfl) (cc := cX6_under) (maxL := 5) (by decide) rfl (Nat.le_of_ble_eq_true rfl) ?_
  intro p e s m args below meth c A Q H locs ls K hG hl hret
  have hl : lv_has ls 5 [(0, .ref a_this), (1, .int x1), (2, .int x2), (3, .int x3), (4, .int x4)] := hl
  have hin_RX3 : ∀ w ∈ u_ws RX3 TX3 6, w ∈ wsX6_under := by decide +kernel
  have hin_RX5 : ∀ w ∈ u_ws RX5 TX5 11, w ∈ wsX6_under := by decide +kernel
  have hin_RX6 : ∀ w ∈ u_ws RX6 TX6 9, w ∈ wsX6_under := by decide +kernel
  unfold wp_X6_under at hw
  refine lv_aload_n K.1 K.2.1 dX6_under_0 rfl (lv_at hl 0 rfl) ?_
  refine lv_iload_n K.1 K.2.1 dX6_under_1 rfl (lv_at hl 1 rfl) ?_
  refine lv_iload_n K.1 K.2.1 dX6_under_2 rfl (lv_at hl 2 rfl) ?_
  refine lv_iload_n K.1 K.2.1 dX6_under_3 rfl (lv_at hl 3 rfl) ?_
  refine lv_iload K.1 K.2.1 dX6_under_4 (lv_at hl 4 rfl) ?_
  refine g_nv (w2 := (fun u => [(a_this, .inr (5, [.ref a_this_task, .ref a_this_front, .ref a_this_cover, .ref a_this_behind, .ref a_this_climber, .ref a_this_numbers, .ref a_this_asked, .int c_this_gone, .int c_this_met])), (a_this_asked, .inl (cI, 4, .inl u)), (a_this_front, .inr (3, [.ref a_this_front_scores, .ref a_this_front_points, .ref a_this_front_counts, .int c_this_front_size, .ref a_this_front_ideals, .ref a_this_front_scales])), (a_this_front_scores, .inl (cJ, 2000, .inr (.inl c_this_front_scores))), (a_this_task, .inr (4, [.ref a_this_task_low, .ref a_this_task_high, .ref a_this_task_right, .ref a_this_task_terms, .ref a_this_task_from, .ref a_this_task_to, .ref a_this_task_costs, .int c_this_task_columns, .int c_this_task_rows, .int c_this_task_aims, .int c_this_task_points]))])) (wr := [(a_this_front, .inr (3, [.ref a_this_front_scores, .ref a_this_front_points, .ref a_this_front_counts, .int c_this_front_size, .ref a_this_front_ideals, .ref a_this_front_scales])), (a_this_front_scores, .inl (cJ, 2000, .inr (.inl c_this_front_scores))), (a_this_task, .inr (4, [.ref a_this_task_low, .ref a_this_task_high, .ref a_this_task_right, .ref a_this_task_terms, .ref a_this_task_from, .ref a_this_task_to, .ref a_this_task_costs, .int c_this_task_columns, .int c_this_task_rows, .int c_this_task_aims, .int c_this_task_points]))]) K hG [0, 1] [2, 3, 4] 5 rfl (g_runV (As := [.int x1, .int x2, .int x3, .int x4]) (rest := []) K hG hl [0, 1] rfl rfl 0 rfl rfl (k_X6_ask l dC dI cI cJ cZ cG H.size a_this a_this_task a_this_front a_this_cover a_this_behind a_this_climber a_this_numbers a_this_asked c_this_asked c_this_gone c_this_met x1 x2 x3 x4 _ hw) (cwV 4 K.2.2.2.2.1 gX6_under_X6_ask rfl rfl rfl (by decide +kernel) ⟨by decide, by decide⟩) rfl rfl (Nat.le_of_ble_eq_true rfl) ⟨Nat.zero_le _, Nat.zero_le _⟩ dX6_under_6) (fun _ => rfl) (fun _ => rfl) rfl (fun _ => rfl) (fun _ => rfl) (by decide) (by decide) (by decide) (fun u H locs hw hG => ?_)
  obtain ⟨c_this_asked_6, rfl⟩ : ∃ z, z = u := ⟨_, rfl⟩
  have hG : HW (dC, dI) A s.heap [(a_this, .inr (5, [.ref a_this_task, .ref a_this_front, .ref a_this_cover, .ref a_this_behind, .ref a_this_climber, .ref a_this_numbers, .ref a_this_asked, .int c_this_gone, .int c_this_met])), (a_this_asked, .inl (cI, 4, .inl c_this_asked_6)), (a_this_front, .inr (3, [.ref a_this_front_scores, .ref a_this_front_points, .ref a_this_front_counts, .int c_this_front_size, .ref a_this_front_ideals, .ref a_this_front_scales])), (a_this_front_scores, .inl (cJ, 2000, .inr (.inl c_this_front_scores))), (a_this_task, .inr (4, [.ref a_this_task_low, .ref a_this_task_high, .ref a_this_task_right, .ref a_this_task_terms, .ref a_this_task_from, .ref a_this_task_to, .ref a_this_task_costs, .int c_this_task_columns, .int c_this_task_rows, .int c_this_task_aims, .int c_this_task_points]))] H locs := hG
  refine lv_aload_n K.1 K.2.1 dX6_under_9 rfl (lv_at hl 0 rfl) ?_
  refine g_get (v := .ref a_this_front) K hG hin_RX6 0 rfl rfl 1 (by decide) (K.2.2.2.2.1 (.fieldLink RX6 19 "AimFronts" "front" "LAimFronts$Front;") (by decide +kernel)) rfl rfl dX6_under_10 ?_
  refine lv_aload_n K.1 K.2.1 dX6_under_13 rfl (lv_at hl 0 rfl) ?_
  refine g_get (v := .ref a_this_asked) K hG hin_RX6 0 rfl rfl 6 (by decide) (K.2.2.2.2.1 (.fieldLink RX6 48 "AimFronts" "asked" "[I") (by decide +kernel)) rfl rfl dX6_under_14 ?_
  refine lv_aload_n K.1 K.2.1 dX6_under_17 rfl (lv_at hl 0 rfl) ?_
  refine g_get (v := .ref a_this_task) K hG hin_RX6 0 rfl rfl 0 (by decide) (K.2.2.2.2.1 (.fieldLink RX6 10 "AimFronts" "task" "LAimFronts$Task;") (by decide +kernel)) rfl rfl dX6_under_18 ?_
  refine g_get (v := .int c_this_task_aims) K hG hin_RX5 4 rfl rfl 9 (by decide) (K.2.2.2.2.1 (.fieldLink RX6 85 "AimFronts$Task" "aims" "I") (by decide +kernel)) rfl rfl dX6_under_21 ?_
  refine g_ri K hG [1, 2, 3] rfl (g_runV (As := [.ref a_this_asked, .int c_this_task_aims]) (rest := []) K hG hl [1, 2, 3] rfl rfl 2 rfl rfl (k_X3_firstUnder l dC dI cI cJ cZ cG H.size a_this_asked a_this_front a_this_front_scores a_this_front_points a_this_front_counts a_this_front_ideals a_this_front_scales c_this_asked_6 c_this_front_scores c_this_front_size c_this_task_aims _ hw) (cwV 2 K.2.2.2.2.1 gX6_under_X3_firstUnder rfl rfl rfl (by decide +kernel) ⟨by decide, by decide⟩) rfl rfl (Nat.le_of_ble_eq_true rfl) ⟨Nat.zero_le _, Nat.zero_le _⟩ dX6_under_24) (fun r_24 H locs hw hG => ?_)
  exact hret r_24 c_this_asked_6 H locs _ ls dX6_under_27 rfl hw hG
abbrev rm_X2_isNear : Room := { frames := 1, cells := 0, slots := 0, locals := 23 }
set_option maxHeartbeats 4000000 in
set_option maxRecDepth 100000 in
theorem k_X2_isNear (l : Launch) (dC : Nat → ClassId) (dI : Nat → Nat → Nat) (cI cJ cZ cG : ClassId) (sz : Nat) (a_p1 a_p1_scores a_p1_points a_p1_counts a_p1_ideals a_p1_scales a_this : Nat) (c_p1_scores : Nat → Int64) (c_p1_size : Int32) (x2 : Int32) (x3 : Int32) (x4 : Int64) (post : Int32 → Prop) (hw : wp_X2_isNear c_p1_scores x2 x3 x4 post) : MetI l yX2_isNear wsX2_isNear rm_X2_isNear (dC, dI) cI cJ cZ cG [.ref a_this, .ref a_p1, .int x2, .int x3, .long x4] sz [(a_p1, .inr (3, [.ref a_p1_scores, .ref a_p1_points, .ref a_p1_counts, .int c_p1_size, .ref a_p1_ideals, .ref a_p1_scales])), (a_p1_scores, .inl (cJ, 2000, .inr (.inl c_p1_scores)))] (fun (r : Int32) (u : Unit) => post r) (fun u => [(a_p1, .inr (3, [.ref a_p1_scores, .ref a_p1_points, .ref a_p1_counts, .int c_p1_size, .ref a_p1_ideals, .ref a_p1_scales])), (a_p1_scores, .inl (cJ, 2000, .inr (.inl c_p1_scores)))]) := by
  refine met_i (ty := .boolean) (Or.inr rfl) (cc := cX2_isNear) (maxL := 6) (by decide) rfl (Nat.le_of_ble_eq_true rfl) ?_
  intro p e s m args below meth c A Q H locs ls K hG hl hret
  have hl : lv_has ls 6 [(0, .ref a_this), (1, .ref a_p1), (2, .int x2), (3, .int x3), (4, .long x4)] := hl
  have hin_RX3 : ∀ w ∈ u_ws RX3 TX3 6, w ∈ wsX2_isNear := by decide +kernel
  unfold wp_X2_isNear at hw
  refine lv_aload_n K.1 K.2.1 dX2_isNear_0 rfl (lv_at hl 1 rfl) ?_
  refine g_get (v := .ref a_p1_scores) K hG hin_RX3 0 rfl rfl 0 (by decide) (K.2.2.2.2.1 (.fieldLink RX2 56 "AimFronts$Front" "scores" "[J") (by decide +kernel)) rfl rfl dX2_isNear_1 ?_
  refine lv_iload_n K.1 K.2.1 dX2_isNear_4 rfl (lv_at hl 2 rfl) ?_
  obtain ⟨h_5, hw⟩ := hw
  refine g_lald K hG 1 rfl h_5 dX2_isNear_5 ?_
  refine lv_aload_n K.1 K.2.1 dX2_isNear_6 rfl (lv_at hl 1 rfl) ?_
  refine g_get (v := .ref a_p1_scores) K hG hin_RX3 0 rfl rfl 0 (by decide) (K.2.2.2.2.1 (.fieldLink RX2 56 "AimFronts$Front" "scores" "[J") (by decide +kernel)) rfl rfl dX2_isNear_7 ?_
  refine lv_iload_n K.1 K.2.1 dX2_isNear_10 rfl (lv_at hl 3 rfl) ?_
  obtain ⟨h_11, hw⟩ := hw
  refine g_lald K hG 1 rfl h_11 dX2_isNear_11 ?_
  refine lv_lload K.1 K.2.1 dX2_isNear_12 (lv_at hl 4 rfl) ?_
  refine lv_ladd K.1 K.2.1 dX2_isNear_14 ?_
  refine g_ri K hG [] rfl (g_runS (As := [.long (c_p1_scores (x2).toNatClampNeg), .long ((c_p1_scores (x3).toNatClampNeg) + x4)]) (rest := []) K hG hl [] rfl rfl (k_X4_inNoneGreater l dC dI cI cJ cZ cG H.size (c_p1_scores (x2).toNatClampNeg) ((c_p1_scores (x3).toNatClampNeg) + x4) _ hw) (va_cwS 2 K.2.2.2.2.1 gX2_isNear_X4_inNoneGreater rfl rfl rfl (by decide +kernel) ⟨by decide, by decide⟩) rfl rfl (Nat.le_of_ble_eq_true rfl) ⟨Nat.zero_le _, Nat.zero_le _⟩ dX2_isNear_15) (fun r_15 H locs hw hG => ?_)
  exact hret r_15 () H locs _ ls dX2_isNear_18 hw.1 hw.2 hG
abbrev rm_X2_changeReach : Room := { frames := 2, cells := 0, slots := 0, locals := 48 }
set_option maxHeartbeats 4000000 in
set_option maxRecDepth 100000 in
theorem k_X2_changeReach (l : Launch) (dC : Nat → ClassId) (dI : Nat → Nat → Nat) (cI cJ cZ cG : ClassId) (sz : Nat) (a_p1 a_p1_scores a_p1_points a_p1_counts a_p1_ideals a_p1_scales a_this a_this_picks a_this_reach a_this_covered : Nat) (c_p1_scores : Nat → Int64) (c_p1_size : Int32) (c_this_reach : Nat → Int32) (c_this_scores : Int32) (c_this_size : Int32) (x2 : Int32) (x3 : Int64) (x5 : Int32) (post : (Nat → Int32) → Prop) (hw : wp_X2_changeReach c_p1_scores c_this_reach c_this_scores x2 x3 x5 post) : MetV l yX2_changeReach wsX2_changeReach rm_X2_changeReach (dC, dI) cI cJ cZ cG [.ref a_this, .ref a_p1, .int x2, .long x3, .int x5] sz [(a_p1, .inr (3, [.ref a_p1_scores, .ref a_p1_points, .ref a_p1_counts, .int c_p1_size, .ref a_p1_ideals, .ref a_p1_scales])), (a_p1_scores, .inl (cJ, 2000, .inr (.inl c_p1_scores))), (a_this, .inr (2, [.ref a_this_picks, .ref a_this_reach, .ref a_this_covered, .int c_this_scores, .int c_this_size])), (a_this_reach, .inl (cI, 100, .inl c_this_reach))] (fun (u : (Nat → Int32)) => post u) (fun u => [(a_p1, .inr (3, [.ref a_p1_scores, .ref a_p1_points, .ref a_p1_counts, .int c_p1_size, .ref a_p1_ideals, .ref a_p1_scales])), (a_p1_scores, .inl (cJ, 2000, .inr (.inl c_p1_scores))), (a_this, .inr (2, [.ref a_this_picks, .ref a_this_reach, .ref a_this_covered, .int c_this_scores, .int c_this_size])), (a_this_reach, .inl (cI, 100, .inl u))]) := by
  refine met_v (cc := cX2_changeReach) (maxL := 7) (by decide) rfl (Nat.le_of_ble_eq_true rfl) ?_
  intro p e s m args below meth c A Q H locs ls K hG hl hret
  have hl : lv_has ls 7 [(0, .ref a_this), (1, .ref a_p1), (2, .int x2), (3, .long x3), (5, .int x5)] := hl
  have hin_RX2 : ∀ w ∈ u_ws RX2 TX2 5, w ∈ wsX2_changeReach := by decide +kernel
  have hin_RX3 : ∀ w ∈ u_ws RX3 TX3 6, w ∈ wsX2_changeReach := by decide +kernel
  unfold wp_X2_changeReach at hw
  refine lv_iconst (v := 0) K.1 K.2.1 dX2_changeReach_0 (by decide) ?_
  refine lv_istore (lv' := [(6, .int (0 : Int32)), (0, .ref a_this), (1, .ref a_p1), (2, .int x2), (3, .long x3), (5, .int x5)]) K.1 K.2.1 dX2_changeReach_1 hl (by decide) rfl (fun ls hl => ?_)
  obtain ⟨kx_3, hkx_3, n_3, hw⟩ := Lx1_2_abs hw
  have hX_3 : ∀ (c_this_reach_3e : Nat → Int32) (H : Heap) (locs : List Loc) (ls : Array Slot), kx_3 c_this_reach_3e → HW (dC, dI) A s.heap [(a_p1, .inr (3, [.ref a_p1_scores, .ref a_p1_points, .ref a_p1_counts, .int c_p1_size, .ref a_p1_ideals, .ref a_p1_scales])), (a_p1_scores, .inl (cJ, 2000, .inr (.inl c_p1_scores))), (a_this, .inr (2, [.ref a_this_picks, .ref a_this_reach, .ref a_this_covered, .int c_this_scores, .int c_this_size])), (a_this_reach, .inl (cI, 100, .inl c_this_reach_3e))] H locs → lv_has ls 7 [] → W p l e rm_X2_changeReach s m args below meth c H locs 0 0 Q (F0 m 42 ls []) := by
    intro c_this_reach_3e H locs ls hw hG hl
    have hw := hkx_3 _ hw
    exact hret c_this_reach_3e H locs _ ls dX2_changeReach_42 hw hG
  have hL_3 : ∀ (n : Nat), ∀ (v6_3 : Int32) (c_this_reach_3 : Nat → Int32) (H : Heap) (locs : List Loc) (ls : Array Slot), Lp2 (b_X2_changeReach_3 c_p1_scores c_this_scores x2 x3 x5 kx_3) n v6_3 c_this_reach_3 → HW (dC, dI) A s.heap [(a_p1, .inr (3, [.ref a_p1_scores, .ref a_p1_points, .ref a_p1_counts, .int c_p1_size, .ref a_p1_ideals, .ref a_p1_scales])), (a_p1_scores, .inl (cJ, 2000, .inr (.inl c_p1_scores))), (a_this, .inr (2, [.ref a_this_picks, .ref a_this_reach, .ref a_this_covered, .int c_this_scores, .int c_this_size])), (a_this_reach, .inl (cI, 100, .inl c_this_reach_3))] H locs → lv_has ls 7 [(0, .ref a_this), (1, .ref a_p1), (2, .int x2), (3, .long x3), (5, .int x5), (6, .int v6_3)] → W p l e rm_X2_changeReach s m args below meth c H locs 0 0 Q (F0 m 3 ls []) := by
    intro n
    induction n with
    | zero => intro v6_3 c_this_reach_3 H locs ls hw; exact False.elim hw
    | succ n ih_3 =>
      intro v6_3 c_this_reach_3 H locs ls hw hG hl
      obtain ⟨w_3, hw_3, hw⟩ : ∃ w' : Int32 → (Nat → Int32) → Prop, (∀ v6_3 c_this_reach_3, w' v6_3 c_this_reach_3 → Lp2 (b_X2_changeReach_3 c_p1_scores c_this_scores x2 x3 x5 kx_3) n v6_3 c_this_reach_3) ∧ b_X2_changeReach_3 c_p1_scores c_this_scores x2 x3 x5 kx_3 w' v6_3 c_this_reach_3 := ⟨_, fun _ _ h => h, hw⟩
      replace ih_3 : ∀ (v6_3 : Int32) (c_this_reach_3 : Nat → Int32) (H : Heap) (locs : List Loc) (ls : Array Slot), w_3 v6_3 c_this_reach_3 → HW (dC, dI) A s.heap [(a_p1, .inr (3, [.ref a_p1_scores, .ref a_p1_points, .ref a_p1_counts, .int c_p1_size, .ref a_p1_ideals, .ref a_p1_scales])), (a_p1_scores, .inl (cJ, 2000, .inr (.inl c_p1_scores))), (a_this, .inr (2, [.ref a_this_picks, .ref a_this_reach, .ref a_this_covered, .int c_this_scores, .int c_this_size])), (a_this_reach, .inl (cI, 100, .inl c_this_reach_3))] H locs → lv_has ls 7 [(0, .ref a_this), (1, .ref a_p1), (2, .int x2), (3, .long x3), (5, .int x5), (6, .int v6_3)] → W p l e rm_X2_changeReach s m args below meth c H locs 0 0 Q (F0 m 3 ls []) := fun v6_3 c_this_reach_3 H locs ls h => ih_3 v6_3 c_this_reach_3 H locs ls (hw_3 _ _ h)
      unfold b_X2_changeReach_3 at hw
      refine lv_iload K.1 K.2.1 dX2_changeReach_3 (lv_at hl 5 rfl) ?_
      refine lv_aload_n K.1 K.2.1 dX2_changeReach_5 rfl (lv_at hl 0 rfl) ?_
      refine g_get (v := .int c_this_scores) K hG hin_RX2 2 rfl rfl 3 (by decide) (K.2.2.2.2.1 (.fieldLink RX2 37 "AimFronts$Cover" "scores" "I") (by decide +kernel)) rfl rfl dX2_changeReach_6 ?_
      refine lv_icmp_ge (tgt := 42) K.1 K.2.1 dX2_changeReach_9 (by decide) (fun q_9 => ?_) (fun q_9 => ?_)
      · have hw := hw.1 q_9
        exact hX_3 c_this_reach_3 H locs ls hw hG (lv_sub hl [] rfl)
      · have hw := hw.2 q_9
        refine lv_aload_n K.1 K.2.1 dX2_changeReach_12 rfl (lv_at hl 0 rfl) ?_
        refine lv_aload_n K.1 K.2.1 dX2_changeReach_13 rfl (lv_at hl 1 rfl) ?_
        refine lv_iload K.1 K.2.1 dX2_changeReach_14 (lv_at hl 5 rfl) ?_
        refine lv_iload_n K.1 K.2.1 dX2_changeReach_16 rfl (lv_at hl 2 rfl) ?_
        refine lv_lload_n K.1 K.2.1 dX2_changeReach_17 rfl (lv_at hl 3 rfl) ?_
        refine g_ri K hG [0, 1] rfl (g_runV (As := [.ref a_p1, .int v6_3, .int x2, .long x3]) (rest := []) K hG hl [0, 1] rfl rfl 2 rfl rfl (k_X2_isNear l dC dI cI cJ cZ cG H.size a_p1 a_p1_scores a_p1_points a_p1_counts a_p1_ideals a_p1_scales a_this c_p1_scores c_p1_size v6_3 x2 x3 _ hw) (cwV 4 K.2.2.2.2.1 gX2_changeReach_X2_isNear rfl rfl rfl (by decide +kernel) ⟨by decide, by decide⟩) rfl rfl (Nat.le_of_ble_eq_true rfl) ⟨Nat.zero_le _, Nat.zero_le _⟩ dX2_changeReach_18) (fun r_18 H locs hw hG => ?_)
        refine lv_if_eq (tgt := 36) K.1 K.2.1 dX2_changeReach_21 (by decide) (fun q_21 => ?_) (fun q_21 => ?_)
        · have hw := hw.1 q_21
          refine lv_iinc (v := (v6_3 + (1 : Int32))) (lv' := [(6, .int (v6_3 + (1 : Int32))), (0, .ref a_this), (1, .ref a_p1), (2, .int x2), (3, .long x3), (5, .int x5)]) K.1 K.2.1 dX2_changeReach_36 hl (k := 5) rfl rfl (by decide) rfl (fun ls hl => ?_)
          refine lv_goto (tgt := 3) K.1 K.2.1 dX2_changeReach_39 (by decide) ?_
          exact ih_3 (v6_3 + (1 : Int32)) c_this_reach_3 H locs ls hw hG (lv_sub hl [1, 2, 3, 4, 5, 0] rfl)
        · have hw := hw.2 q_21
          refine lv_aload_n K.1 K.2.1 dX2_changeReach_24 rfl (lv_at hl 0 rfl) ?_
          refine g_get (v := .ref a_this_reach) K hG hin_RX2 2 rfl rfl 1 (by decide) (K.2.2.2.2.1 (.fieldLink RX2 13 "AimFronts$Cover" "reach" "[I") (by decide +kernel)) rfl rfl dX2_changeReach_25 ?_
          refine lv_iload K.1 K.2.1 dX2_changeReach_28 (lv_at hl 5 rfl) ?_
          refine lv_dup2_11 K.1 K.2.1 dX2_changeReach_30 rfl rfl ?_
          obtain ⟨h_31, hw⟩ := hw
          refine g_iald K hG 3 rfl h_31 dX2_changeReach_31 ?_
          refine lv_iload K.1 K.2.1 dX2_changeReach_32 (lv_at hl 4 rfl) ?_
          refine lv_iadd K.1 K.2.1 dX2_changeReach_34 ?_
          obtain ⟨h_35, hw⟩ := hw
          refine g_iast (ws' := [(a_p1, .inr (3, [.ref a_p1_scores, .ref a_p1_points, .ref a_p1_counts, .int c_p1_size, .ref a_p1_ideals, .ref a_p1_scales])), (a_p1_scores, .inl (cJ, 2000, .inr (.inl c_p1_scores))), (a_this, .inr (2, [.ref a_this_picks, .ref a_this_reach, .ref a_this_covered, .int c_this_scores, .int c_this_size])), (a_this_reach, .inl (cI, 100, .inl (upd c_this_reach_3 (v6_3).toNatClampNeg ((c_this_reach_3 (v6_3).toNatClampNeg) + x5))))]) K hG 3 rfl h_35 rfl dX2_changeReach_35 (fun H locs hG => ?_)
          refine lv_iinc (v := (v6_3 + (1 : Int32))) (lv' := [(6, .int (v6_3 + (1 : Int32))), (0, .ref a_this), (1, .ref a_p1), (2, .int x2), (3, .long x3), (5, .int x5)]) K.1 K.2.1 dX2_changeReach_36 hl (k := 5) rfl rfl (by decide) rfl (fun ls hl => ?_)
          refine lv_goto (tgt := 3) K.1 K.2.1 dX2_changeReach_39 (by decide) ?_
          exact ih_3 (v6_3 + (1 : Int32)) (upd c_this_reach_3 (v6_3).toNatClampNeg ((c_this_reach_3 (v6_3).toNatClampNeg) + x5)) H locs ls hw hG (lv_sub hl [1, 2, 3, 4, 5, 0] rfl)
  exact hL_3 n_3 (0 : Int32) c_this_reach H locs ls hw hG (lv_sub hl [1, 2, 3, 4, 5, 0] rfl)

abbrev rm_X2_furthest : Room := { frames := 0, cells := 0, slots := 0, locals := 0 }
set_option maxHeartbeats 4000000 in
set_option maxRecDepth 100000 in
theorem k_X2_furthest (l : Launch) (dC : Nat → ClassId) (dI : Nat → Nat → Nat) (cI cJ cZ cG : ClassId) (sz : Nat) (a_this a_this_picks a_this_reach a_this_covered : Nat) (c_this_reach : Nat → Int32) (c_this_scores : Int32) (c_this_size : Int32) (post : Int32 → Prop) (hw : wp_X2_furthest c_this_reach c_this_scores post) : MetI l yX2_furthest wsX2_furthest rm_X2_furthest (dC, dI) cI cJ cZ cG [.ref a_this] sz [(a_this, .inr (2, [.ref a_this_picks, .ref a_this_reach, .ref a_this_covered, .int c_this_scores, .int c_this_size])), (a_this_reach, .inl (cI, 100, .inl c_this_reach))] (fun (r : Int32) (u : Unit) => post r) (fun u => [(a_this, .inr (2, [.ref a_this_picks, .ref a_this_reach, .ref a_this_covered, .int c_this_scores, .int c_this_size])), (a_this_reach, .inl (cI, 100, .inl c_this_reach))]) := by
  refine met_i (ty := .int) (Or.inl rfl) (cc := cX2_furthest) (maxL := 3) (by decide) rfl (Nat.le_of_ble_eq_true rfl) ?_
  intro p e s m args below meth c A Q H locs ls K hG hl hret
  have hl : lv_has ls 3 [(0, .ref a_this)] := hl
  have hin_RX2 : ∀ w ∈ u_ws RX2 TX2 5, w ∈ wsX2_furthest := by decide +kernel
  unfold wp_X2_furthest at hw
  refine lv_iconst (v := 0) K.1 K.2.1 dX2_furthest_0 (by decide) ?_
  refine lv_istore_n (lv' := [(1, .int (0 : Int32)), (0, .ref a_this)]) K.1 K.2.1 dX2_furthest_1 rfl hl (by decide) rfl (fun ls hl => ?_)
  refine lv_iconst (v := 1) K.1 K.2.1 dX2_furthest_2 (by decide) ?_
  refine lv_istore_n (lv' := [(2, .int (1 : Int32)), (1, .int (0 : Int32)), (0, .ref a_this)]) K.1 K.2.1 dX2_furthest_3 rfl hl (by decide) rfl (fun ls hl => ?_)
  obtain ⟨kx_4, hkx_4, n_4, hw⟩ := Lx1_2_abs hw
  have hX_4 : ∀ (v1_4e : Int32) (H : Heap) (locs : List Loc) (ls : Array Slot), kx_4 v1_4e → HW (dC, dI) A s.heap [(a_this, .inr (2, [.ref a_this_picks, .ref a_this_reach, .ref a_this_covered, .int c_this_scores, .int c_this_size])), (a_this_reach, .inl (cI, 100, .inl c_this_reach))] H locs → lv_has ls 3 [(1, .int v1_4e)] → W p l e rm_X2_furthest s m args below meth c H locs 0 0 Q (F0 m 35 ls []) := by
    intro v1_4e H locs ls hw hG hl
    have hw := hkx_4 _ hw
    refine lv_iload_n K.1 K.2.1 dX2_furthest_35 rfl (lv_at hl 0 rfl) ?_
    exact hret v1_4e () H locs _ ls dX2_furthest_36 rfl hw hG
  have hL_4 : ∀ (n : Nat), ∀ (v1_4 : Int32) (v2_4 : Int32) (H : Heap) (locs : List Loc) (ls : Array Slot), Lp2 (b_X2_furthest_4 c_this_scores c_this_reach kx_4) n v1_4 v2_4 → HW (dC, dI) A s.heap [(a_this, .inr (2, [.ref a_this_picks, .ref a_this_reach, .ref a_this_covered, .int c_this_scores, .int c_this_size])), (a_this_reach, .inl (cI, 100, .inl c_this_reach))] H locs → lv_has ls 3 [(0, .ref a_this), (1, .int v1_4), (2, .int v2_4)] → W p l e rm_X2_furthest s m args below meth c H locs 0 0 Q (F0 m 4 ls []) := by
    intro n
    induction n with
    | zero => intro v1_4 v2_4 H locs ls hw; exact False.elim hw
    | succ n ih_4 =>
      intro v1_4 v2_4 H locs ls hw hG hl
      obtain ⟨w_4, hw_4, hw⟩ : ∃ w' : Int32 → Int32 → Prop, (∀ v1_4 v2_4, w' v1_4 v2_4 → Lp2 (b_X2_furthest_4 c_this_scores c_this_reach kx_4) n v1_4 v2_4) ∧ b_X2_furthest_4 c_this_scores c_this_reach kx_4 w' v1_4 v2_4 := ⟨_, fun _ _ h => h, hw⟩
      replace ih_4 : ∀ (v1_4 : Int32) (v2_4 : Int32) (H : Heap) (locs : List Loc) (ls : Array Slot), w_4 v1_4 v2_4 → HW (dC, dI) A s.heap [(a_this, .inr (2, [.ref a_this_picks, .ref a_this_reach, .ref a_this_covered, .int c_this_scores, .int c_this_size])), (a_this_reach, .inl (cI, 100, .inl c_this_reach))] H locs → lv_has ls 3 [(0, .ref a_this), (1, .int v1_4), (2, .int v2_4)] → W p l e rm_X2_furthest s m args below meth c H locs 0 0 Q (F0 m 4 ls []) := fun v1_4 v2_4 H locs ls h => ih_4 v1_4 v2_4 H locs ls (hw_4 _ _ h)
      unfold b_X2_furthest_4 at hw
      refine lv_iload_n K.1 K.2.1 dX2_furthest_4 rfl (lv_at hl 2 rfl) ?_
      refine lv_aload_n K.1 K.2.1 dX2_furthest_5 rfl (lv_at hl 0 rfl) ?_
      refine g_get (v := .int c_this_scores) K hG hin_RX2 0 rfl rfl 3 (by decide) (K.2.2.2.2.1 (.fieldLink RX2 37 "AimFronts$Cover" "scores" "I") (by decide +kernel)) rfl rfl dX2_furthest_6 ?_
      refine lv_icmp_ge (tgt := 35) K.1 K.2.1 dX2_furthest_9 (by decide) (fun q_9 => ?_) (fun q_9 => ?_)
      · have hw := hw.1 q_9
        exact hX_4 v1_4 H locs ls hw hG (lv_sub hl [1] rfl)
      · have hw := hw.2 q_9
        refine lv_aload_n K.1 K.2.1 dX2_furthest_12 rfl (lv_at hl 0 rfl) ?_
        refine g_get (v := .ref a_this_reach) K hG hin_RX2 0 rfl rfl 1 (by decide) (K.2.2.2.2.1 (.fieldLink RX2 13 "AimFronts$Cover" "reach" "[I") (by decide +kernel)) rfl rfl dX2_furthest_13 ?_
        refine lv_iload_n K.1 K.2.1 dX2_furthest_16 rfl (lv_at hl 2 rfl) ?_
        obtain ⟨h_17, hw⟩ := hw
        refine g_iald K hG 1 rfl h_17 dX2_furthest_17 ?_
        refine lv_aload_n K.1 K.2.1 dX2_furthest_18 rfl (lv_at hl 0 rfl) ?_
        refine g_get (v := .ref a_this_reach) K hG hin_RX2 0 rfl rfl 1 (by decide) (K.2.2.2.2.1 (.fieldLink RX2 13 "AimFronts$Cover" "reach" "[I") (by decide +kernel)) rfl rfl dX2_furthest_19 ?_
        refine lv_iload_n K.1 K.2.1 dX2_furthest_22 rfl (lv_at hl 1 rfl) ?_
        obtain ⟨h_23, hw⟩ := hw
        refine g_iald K hG 1 rfl h_23 dX2_furthest_23 ?_
        refine lv_icmp_le (tgt := 29) K.1 K.2.1 dX2_furthest_24 (by decide) (fun q_24 => ?_) (fun q_24 => ?_)
        · have hw := hw.1 q_24
          refine lv_iinc (v := (v2_4 + (1 : Int32))) (lv' := [(2, .int (v2_4 + (1 : Int32))), (0, .ref a_this), (1, .int v1_4)]) K.1 K.2.1 dX2_furthest_29 hl (k := 2) rfl rfl (by decide) rfl (fun ls hl => ?_)
          refine lv_goto (tgt := 4) K.1 K.2.1 dX2_furthest_32 (by decide) ?_
          exact ih_4 v1_4 (v2_4 + (1 : Int32)) H locs ls hw hG (lv_sub hl [1, 2, 0] rfl)
        · have hw := hw.2 q_24
          refine lv_iload_n K.1 K.2.1 dX2_furthest_27 rfl (lv_at hl 2 rfl) ?_
          refine lv_istore_n (lv' := [(1, .int v2_4), (0, .ref a_this), (2, .int v2_4)]) K.1 K.2.1 dX2_furthest_28 rfl hl (by decide) rfl (fun ls hl => ?_)
          refine lv_iinc (v := (v2_4 + (1 : Int32))) (lv' := [(2, .int (v2_4 + (1 : Int32))), (1, .int v2_4), (0, .ref a_this)]) K.1 K.2.1 dX2_furthest_29 hl (k := 2) rfl rfl (by decide) rfl (fun ls hl => ?_)
          refine lv_goto (tgt := 4) K.1 K.2.1 dX2_furthest_32 (by decide) ?_
          exact ih_4 v2_4 (v2_4 + (1 : Int32)) H locs ls hw hG (lv_sub hl [2, 1, 0] rfl)
  exact hL_4 n_4 (0 : Int32) (1 : Int32) H locs ls hw hG (lv_sub hl [2, 1, 0] rfl)
abbrev rm_X2_coverFrom : Room := { frames := 3, cells := 0, slots := 0, locals := 74 }
set_option maxHeartbeats 4000000 in
set_option maxRecDepth 100000 in
theorem k_X2_coverFrom (l : Launch) (dC : Nat → ClassId) (dI : Nat → Nat → Nat) (cI cJ cZ cG : ClassId) (sz : Nat) (a_p1 a_p1_scores a_p1_points a_p1_counts a_p1_ideals a_p1_scales a_this a_this_picks a_this_reach a_this_covered : Nat) (c_p1_scores : Nat → Int64) (c_p1_size : Int32) (c_this_covered : Nat → Int32) (c_this_reach : Nat → Int32) (c_this_scores : Int32) (c_this_size : Int32) (x2 : Int32) (x3 : Int64) (post : Int32 → (Nat → Int32) → (Nat → Int32) → Prop) (hw : wp_X2_coverFrom c_p1_scores c_this_covered c_this_reach c_this_scores x2 x3 post) : MetI l yX2_coverFrom wsX2_coverFrom rm_X2_coverFrom (dC, dI) cI cJ cZ cG [.ref a_this, .ref a_p1, .int x2, .long x3] sz [(a_p1, .inr (3, [.ref a_p1_scores, .ref a_p1_points, .ref a_p1_counts, .int c_p1_size, .ref a_p1_ideals, .ref a_p1_scales])), (a_p1_scores, .inl (cJ, 2000, .inr (.inl c_p1_scores))), (a_this, .inr (2, [.ref a_this_picks, .ref a_this_reach, .ref a_this_covered, .int c_this_scores, .int c_this_size])), (a_this_covered, .inl (cZ, 100, .inl c_this_covered)), (a_this_reach, .inl (cI, 100, .inl c_this_reach))] (fun (r : Int32) (u : (Nat → Int32) × (Nat → Int32)) => post r (u.1) (u.2)) (fun u => [(a_p1, .inr (3, [.ref a_p1_scores, .ref a_p1_points, .ref a_p1_counts, .int c_p1_size, .ref a_p1_ideals, .ref a_p1_scales])), (a_p1_scores, .inl (cJ, 2000, .inr (.inl c_p1_scores))), (a_this, .inr (2, [.ref a_this_picks, .ref a_this_reach, .ref a_this_covered, .int c_this_scores, .int c_this_size])), (a_this_covered, .inl (cZ, 100, .inl (u.1))), (a_this_reach, .inl (cI, 100, .inl (u.2)))]) := by
  refine met_i (ty := .int) (Or.inl rfl) (cc := cX2_coverFrom) (maxL := 7) (by decide) rfl (Nat.le_of_ble_eq_true rfl) ?_
  intro p e s m args below meth c A Q H locs ls K hG hl hret
  have hl : lv_has ls 7 [(0, .ref a_this), (1, .ref a_p1), (2, .int x2), (3, .long x3)] := hl
  have hin_RX2 : ∀ w ∈ u_ws RX2 TX2 5, w ∈ wsX2_coverFrom := by decide +kernel
  have hin_RX3 : ∀ w ∈ u_ws RX3 TX3 6, w ∈ wsX2_coverFrom := by decide +kernel
  unfold wp_X2_coverFrom at hw
  refine lv_iconst (v := 0) K.1 K.2.1 dX2_coverFrom_0 (by decide) ?_
  refine lv_istore (lv' := [(5, .int (0 : Int32)), (0, .ref a_this), (1, .ref a_p1), (2, .int x2), (3, .long x3)]) K.1 K.2.1 dX2_coverFrom_1 hl (by decide) rfl (fun ls hl => ?_)
  refine lv_iconst (v := 0) K.1 K.2.1 dX2_coverFrom_3 (by decide) ?_
  refine lv_istore (lv' := [(6, .int (0 : Int32)), (5, .int (0 : Int32)), (0, .ref a_this), (1, .ref a_p1), (2, .int x2), (3, .long x3)]) K.1 K.2.1 dX2_coverFrom_4 hl (by decide) rfl (fun ls hl => ?_)
  obtain ⟨kx_6, hkx_6, n_6, hw⟩ := Lx3_4_abs hw
  have hX_6 : ∀ (v5_6e : Int32) (c_this_covered_6e : Nat → Int32) (c_this_reach_6e : Nat → Int32) (H : Heap) (locs : List Loc) (ls : Array Slot), kx_6 v5_6e c_this_covered_6e c_this_reach_6e → HW (dC, dI) A s.heap [(a_p1, .inr (3, [.ref a_p1_scores, .ref a_p1_points, .ref a_p1_counts, .int c_p1_size, .ref a_p1_ideals, .ref a_p1_scales])), (a_p1_scores, .inl (cJ, 2000, .inr (.inl c_p1_scores))), (a_this, .inr (2, [.ref a_this_picks, .ref a_this_reach, .ref a_this_covered, .int c_this_scores, .int c_this_size])), (a_this_covered, .inl (cZ, 100, .inl c_this_covered_6e)), (a_this_reach, .inl (cI, 100, .inl c_this_reach_6e))] H locs → lv_has ls 7 [(5, .int v5_6e)] → W p l e rm_X2_coverFrom s m args below meth c H locs 0 0 Q (F0 m 63 ls []) := by
    intro v5_6e c_this_covered_6e c_this_reach_6e H locs ls hw hG hl
    have hw := hkx_6 _ _ _ hw
    refine lv_iload K.1 K.2.1 dX2_coverFrom_63 (lv_at hl 0 rfl) ?_
    exact hret v5_6e (c_this_covered_6e, c_this_reach_6e) H locs _ ls dX2_coverFrom_65 rfl hw hG
  have hL_6 : ∀ (n : Nat), ∀ (v5_6 : Int32) (v6_6 : Int32) (c_this_covered_6 : Nat → Int32) (c_this_reach_6 : Nat → Int32) (H : Heap) (locs : List Loc) (ls : Array Slot), Lp4 (b_X2_coverFrom_6 c_p1_scores c_this_scores x2 x3 kx_6) n v5_6 v6_6 c_this_covered_6 c_this_reach_6 → HW (dC, dI) A s.heap [(a_p1, .inr (3, [.ref a_p1_scores, .ref a_p1_points, .ref a_p1_counts, .int c_p1_size, .ref a_p1_ideals, .ref a_p1_scales])), (a_p1_scores, .inl (cJ, 2000, .inr (.inl c_p1_scores))), (a_this, .inr (2, [.ref a_this_picks, .ref a_this_reach, .ref a_this_covered, .int c_this_scores, .int c_this_size])), (a_this_covered, .inl (cZ, 100, .inl c_this_covered_6)), (a_this_reach, .inl (cI, 100, .inl c_this_reach_6))] H locs → lv_has ls 7 [(0, .ref a_this), (1, .ref a_p1), (2, .int x2), (3, .long x3), (5, .int v5_6), (6, .int v6_6)] → W p l e rm_X2_coverFrom s m args below meth c H locs 0 0 Q (F0 m 6 ls []) := by
    intro n
    induction n with
    | zero => intro v5_6 v6_6 c_this_covered_6 c_this_reach_6 H locs ls hw; exact False.elim hw
    | succ n ih_6 =>
      intro v5_6 v6_6 c_this_covered_6 c_this_reach_6 H locs ls hw hG hl
      obtain ⟨w_6, hw_6, hw⟩ : ∃ w' : Int32 → Int32 → (Nat → Int32) → (Nat → Int32) → Prop, (∀ v5_6 v6_6 c_this_covered_6 c_this_reach_6, w' v5_6 v6_6 c_this_covered_6 c_this_reach_6 → Lp4 (b_X2_coverFrom_6 c_p1_scores c_this_scores x2 x3 kx_6) n v5_6 v6_6 c_this_covered_6 c_this_reach_6) ∧ b_X2_coverFrom_6 c_p1_scores c_this_scores x2 x3 kx_6 w' v5_6 v6_6 c_this_covered_6 c_this_reach_6 := ⟨_, fun _ _ _ _ h => h, hw⟩
      replace ih_6 : ∀ (v5_6 : Int32) (v6_6 : Int32) (c_this_covered_6 : Nat → Int32) (c_this_reach_6 : Nat → Int32) (H : Heap) (locs : List Loc) (ls : Array Slot), w_6 v5_6 v6_6 c_this_covered_6 c_this_reach_6 → HW (dC, dI) A s.heap [(a_p1, .inr (3, [.ref a_p1_scores, .ref a_p1_points, .ref a_p1_counts, .int c_p1_size, .ref a_p1_ideals, .ref a_p1_scales])), (a_p1_scores, .inl (cJ, 2000, .inr (.inl c_p1_scores))), (a_this, .inr (2, [.ref a_this_picks, .ref a_this_reach, .ref a_this_covered, .int c_this_scores, .int c_this_size])), (a_this_covered, .inl (cZ, 100, .inl c_this_covered_6)), (a_this_reach, .inl (cI, 100, .inl c_this_reach_6))] H locs → lv_has ls 7 [(0, .ref a_this), (1, .ref a_p1), (2, .int x2), (3, .long x3), (5, .int v5_6), (6, .int v6_6)] → W p l e rm_X2_coverFrom s m args below meth c H locs 0 0 Q (F0 m 6 ls []) := fun v5_6 v6_6 c_this_covered_6 c_this_reach_6 H locs ls h => ih_6 v5_6 v6_6 c_this_covered_6 c_this_reach_6 H locs ls (hw_6 _ _ _ _ h)
      unfold b_X2_coverFrom_6 at hw
      refine lv_iload K.1 K.2.1 dX2_coverFrom_6 (lv_at hl 5 rfl) ?_
      refine lv_aload_n K.1 K.2.1 dX2_coverFrom_8 rfl (lv_at hl 0 rfl) ?_
      refine g_get (v := .int c_this_scores) K hG hin_RX2 2 rfl rfl 3 (by decide) (K.2.2.2.2.1 (.fieldLink RX2 37 "AimFronts$Cover" "scores" "I") (by decide +kernel)) rfl rfl dX2_coverFrom_9 ?_
      refine lv_icmp_ge (tgt := 63) K.1 K.2.1 dX2_coverFrom_12 (by decide) (fun q_12 => ?_) (fun q_12 => ?_)
      · have hw := hw.1 q_12
        exact hX_6 v5_6 c_this_covered_6 c_this_reach_6 H locs ls hw hG (lv_sub hl [4] rfl)
      · have hw := hw.2 q_12
        refine lv_aload_n K.1 K.2.1 dX2_coverFrom_15 rfl (lv_at hl 0 rfl) ?_
        refine g_get (v := .ref a_this_covered) K hG hin_RX2 2 rfl rfl 2 (by decide) (K.2.2.2.2.1 (.fieldLink RX2 16 "AimFronts$Cover" "covered" "[Z") (by decide +kernel)) rfl rfl dX2_coverFrom_16 ?_
        refine lv_iload K.1 K.2.1 dX2_coverFrom_19 (lv_at hl 5 rfl) ?_
        obtain ⟨h_21, hw⟩ := hw
        refine g_zald K hG 3 rfl h_21 dX2_coverFrom_21 ?_
        refine lv_if_ne (tgt := 57) K.1 K.2.1 dX2_coverFrom_22 (by decide) (fun q_22 => ?_) (fun q_22 => ?_)
        · have hw := hw.2 q_22
          refine lv_iinc (v := (v6_6 + (1 : Int32))) (lv' := [(6, .int (v6_6 + (1 : Int32))), (0, .ref a_this), (1, .ref a_p1), (2, .int x2), (3, .long x3), (5, .int v5_6)]) K.1 K.2.1 dX2_coverFrom_57 hl (k := 5) rfl rfl (by decide) rfl (fun ls hl => ?_)
          refine lv_goto (tgt := 6) K.1 K.2.1 dX2_coverFrom_60 (by decide) ?_
          exact ih_6 v5_6 (v6_6 + (1 : Int32)) c_this_covered_6 c_this_reach_6 H locs ls hw hG (lv_sub hl [1, 2, 3, 4, 5, 0] rfl)
        · have hw := hw.1 q_22
          refine lv_aload_n K.1 K.2.1 dX2_coverFrom_25 rfl (lv_at hl 0 rfl) ?_
          refine lv_aload_n K.1 K.2.1 dX2_coverFrom_26 rfl (lv_at hl 1 rfl) ?_
          refine lv_iload_n K.1 K.2.1 dX2_coverFrom_27 rfl (lv_at hl 2 rfl) ?_
          refine lv_iload K.1 K.2.1 dX2_coverFrom_28 (lv_at hl 5 rfl) ?_
          refine lv_lload_n K.1 K.2.1 dX2_coverFrom_30 rfl (lv_at hl 3 rfl) ?_
          refine g_ri K hG [0, 1] rfl (g_runV (As := [.ref a_p1, .int x2, .int v6_6, .long x3]) (rest := []) K hG hl [0, 1] rfl rfl 2 rfl rfl (k_X2_isNear l dC dI cI cJ cZ cG H.size a_p1 a_p1_scores a_p1_points a_p1_counts a_p1_ideals a_p1_scales a_this c_p1_scores c_p1_size x2 v6_6 x3 _ hw) (cwV 4 K.2.2.2.2.1 gX2_coverFrom_X2_isNear rfl rfl rfl (by decide +kernel) ⟨by decide, by decide⟩) rfl rfl (Nat.le_of_ble_eq_true rfl) ⟨Nat.zero_le _, Nat.zero_le _⟩ dX2_coverFrom_31) (fun r_31 H locs hw hG => ?_)
          refine lv_if_eq (tgt := 57) K.1 K.2.1 dX2_coverFrom_34 (by decide) (fun q_34 => ?_) (fun q_34 => ?_)
          · have hw := hw.1 q_34
            refine lv_iinc (v := (v6_6 + (1 : Int32))) (lv' := [(6, .int (v6_6 + (1 : Int32))), (0, .ref a_this), (1, .ref a_p1), (2, .int x2), (3, .long x3), (5, .int v5_6)]) K.1 K.2.1 dX2_coverFrom_57 hl (k := 5) rfl rfl (by decide) rfl (fun ls hl => ?_)
            refine lv_goto (tgt := 6) K.1 K.2.1 dX2_coverFrom_60 (by decide) ?_
            exact ih_6 v5_6 (v6_6 + (1 : Int32)) c_this_covered_6 c_this_reach_6 H locs ls hw hG (lv_sub hl [1, 2, 3, 4, 5, 0] rfl)
          · have hw := hw.2 q_34
            refine lv_aload_n K.1 K.2.1 dX2_coverFrom_37 rfl (lv_at hl 0 rfl) ?_
            refine g_get (v := .ref a_this_covered) K hG hin_RX2 2 rfl rfl 2 (by decide) (K.2.2.2.2.1 (.fieldLink RX2 16 "AimFronts$Cover" "covered" "[Z") (by decide +kernel)) rfl rfl dX2_coverFrom_38 ?_
            refine lv_iload K.1 K.2.1 dX2_coverFrom_41 (lv_at hl 5 rfl) ?_
            refine lv_iconst (v := 1) K.1 K.2.1 dX2_coverFrom_43 (by decide) ?_
            obtain ⟨h_44, hw⟩ := hw
            refine g_zast (ws' := [(a_p1, .inr (3, [.ref a_p1_scores, .ref a_p1_points, .ref a_p1_counts, .int c_p1_size, .ref a_p1_ideals, .ref a_p1_scales])), (a_p1_scores, .inl (cJ, 2000, .inr (.inl c_p1_scores))), (a_this, .inr (2, [.ref a_this_picks, .ref a_this_reach, .ref a_this_covered, .int c_this_scores, .int c_this_size])), (a_this_covered, .inl (cZ, 100, .inl (upd c_this_covered_6 (v6_6).toNatClampNeg (vp_nar .boolean (1 : Int32))))), (a_this_reach, .inl (cI, 100, .inl c_this_reach_6))]) K hG 3 rfl h_44 rfl dX2_coverFrom_44 (fun H locs hG => ?_)
            refine lv_aload_n K.1 K.2.1 dX2_coverFrom_45 rfl (lv_at hl 0 rfl) ?_
            refine lv_aload_n K.1 K.2.1 dX2_coverFrom_46 rfl (lv_at hl 1 rfl) ?_
            refine lv_iload K.1 K.2.1 dX2_coverFrom_47 (lv_at hl 5 rfl) ?_
            refine lv_lload_n K.1 K.2.1 dX2_coverFrom_49 rfl (lv_at hl 3 rfl) ?_
            refine lv_iconst (v := -1) K.1 K.2.1 dX2_coverFrom_50 (by decide) ?_
            refine g_nv (w2 := (fun u => [(a_p1, .inr (3, [.ref a_p1_scores, .ref a_p1_points, .ref a_p1_counts, .int c_p1_size, .ref a_p1_ideals, .ref a_p1_scales])), (a_p1_scores, .inl (cJ, 2000, .inr (.inl c_p1_scores))), (a_this, .inr (2, [.ref a_this_picks, .ref a_this_reach, .ref a_this_covered, .int c_this_scores, .int c_this_size])), (a_this_covered, .inl (cZ, 100, .inl (upd c_this_covered_6 (v6_6).toNatClampNeg (vp_nar .boolean (1 : Int32))))), (a_this_reach, .inl (cI, 100, .inl u))])) (wr := [(a_this_covered, .inl (cZ, 100, .inl (upd c_this_covered_6 (v6_6).toNatClampNeg (vp_nar .boolean (1 : Int32)))))]) K hG [0, 1, 2, 4] [3] 5 rfl (g_runV (As := [.ref a_p1, .int v6_6, .long x3, .int (-1 : Int32)]) (rest := []) K hG hl [0, 1, 2, 4] rfl rfl 2 rfl rfl (k_X2_changeReach l dC dI cI cJ cZ cG H.size a_p1 a_p1_scores a_p1_points a_p1_counts a_p1_ideals a_p1_scales a_this a_this_picks a_this_reach a_this_covered c_p1_scores c_p1_size c_this_reach_6 c_this_scores c_this_size v6_6 x3 (-1 : Int32) _ hw) (cwV 4 K.2.2.2.2.1 gX2_coverFrom_X2_changeReach rfl rfl rfl (by decide +kernel) ⟨by decide, by decide⟩) rfl rfl (Nat.le_of_ble_eq_true rfl) ⟨Nat.zero_le _, Nat.zero_le _⟩ dX2_coverFrom_51) (fun _ => rfl) (fun _ => rfl) rfl (fun _ => rfl) (fun _ => rfl) (by decide) (by decide) (by decide) (fun u H locs hw hG => ?_)
            obtain ⟨c_this_reach_51, rfl⟩ : ∃ z, z = u := ⟨_, rfl⟩
            have hG : HW (dC, dI) A s.heap [(a_p1, .inr (3, [.ref a_p1_scores, .ref a_p1_points, .ref a_p1_counts, .int c_p1_size, .ref a_p1_ideals, .ref a_p1_scales])), (a_p1_scores, .inl (cJ, 2000, .inr (.inl c_p1_scores))), (a_this, .inr (2, [.ref a_this_picks, .ref a_this_reach, .ref a_this_covered, .int c_this_scores, .int c_this_size])), (a_this_covered, .inl (cZ, 100, .inl (upd c_this_covered_6 (v6_6).toNatClampNeg (vp_nar .boolean (1 : Int32))))), (a_this_reach, .inl (cI, 100, .inl c_this_reach_51))] H locs := hG
            refine lv_iinc (v := (v5_6 + (1 : Int32))) (lv' := [(5, .int (v5_6 + (1 : Int32))), (0, .ref a_this), (1, .ref a_p1), (2, .int x2), (3, .long x3), (6, .int v6_6)]) K.1 K.2.1 dX2_coverFrom_54 hl (k := 4) rfl rfl (by decide) rfl (fun ls hl => ?_)
            refine lv_iinc (v := (v6_6 + (1 : Int32))) (lv' := [(6, .int (v6_6 + (1 : Int32))), (5, .int (v5_6 + (1 : Int32))), (0, .ref a_this), (1, .ref a_p1), (2, .int x2), (3, .long x3)]) K.1 K.2.1 dX2_coverFrom_57 hl (k := 5) rfl rfl (by decide) rfl (fun ls hl => ?_)
            refine lv_goto (tgt := 6) K.1 K.2.1 dX2_coverFrom_60 (by decide) ?_
            exact ih_6 (v5_6 + (1 : Int32)) (v6_6 + (1 : Int32)) (upd c_this_covered_6 (v6_6).toNatClampNeg (vp_nar .boolean (1 : Int32))) c_this_reach_51 H locs ls hw hG (lv_sub hl [2, 3, 4, 5, 1, 0] rfl)
  exact hL_6 n_6 (0 : Int32) (0 : Int32) c_this_covered c_this_reach H locs ls hw hG (lv_sub hl [2, 3, 4, 5, 1, 0] rfl)
abbrev rm_X2_pick : Room := { frames := 4, cells := 0, slots := 0, locals := 100 }
set_option maxHeartbeats 4000000 in
set_option maxRecDepth 100000 in
theorem k_X2_pick (l : Launch) (dC : Nat → ClassId) (dI : Nat → Nat → Nat) (cI cJ cZ cG : ClassId) (sz : Nat) (a_p1 a_p1_scores a_p1_points a_p1_counts a_p1_ideals a_p1_scales a_this a_this_picks a_this_reach a_this_covered : Nat) (c_p1_scores : Nat → Int64) (c_p1_size : Int32) (c_this_covered : Nat → Int32) (c_this_picks : Nat → Int32) (c_this_reach : Nat → Int32) (c_this_scores : Int32) (c_this_size : Int32) (x2 : Int32) (post : Int32 → (Nat → Int32) → (Nat → Int32) → (Nat → Int32) → Int32 → Int32 → Prop) (hw : wp_X2_pick c_p1_scores c_p1_size c_this_covered c_this_picks c_this_reach c_this_scores c_this_size x2 post) : MetI l yX2_pick wsX2_pick rm_X2_pick (dC, dI) cI cJ cZ cG [.ref a_this, .ref a_p1, .int x2] sz [(a_p1, .inr (3, [.ref a_p1_scores, .ref a_p1_points, .ref a_p1_counts, .int c_p1_size, .ref a_p1_ideals, .ref a_p1_scales])), (a_p1_scores, .inl (cJ, 2000, .inr (.inl c_p1_scores))), (a_this, .inr (2, [.ref a_this_picks, .ref a_this_reach, .ref a_this_covered, .int c_this_scores, .int c_this_size])), (a_this_covered, .inl (cZ, 100, .inl c_this_covered)), (a_this_picks, .inl (cI, 100, .inl c_this_picks)), (a_this_reach, .inl (cI, 100, .inl c_this_reach))] (fun (r : Int32) (u : (Nat → Int32) × (Nat → Int32) × (Nat → Int32) × Int32 × Int32) => post r (u.1) (u.2.1) (u.2.2.1) (u.2.2.2.1) (u.2.2.2.2)) (fun u => [(a_p1, .inr (3, [.ref a_p1_scores, .ref a_p1_points, .ref a_p1_counts, .int c_p1_size, .ref a_p1_ideals, .ref a_p1_scales])), (a_p1_scores, .inl (cJ, 2000, .inr (.inl c_p1_scores))), (a_this, .inr (2, [.ref a_this_picks, .ref a_this_reach, .ref a_this_covered, .int (u.2.2.2.1), .int (u.2.2.2.2)])), (a_this_covered, .inl (cZ, 100, .inl (u.1))), (a_this_picks, .inl (cI, 100, .inl (u.2.1))), (a_this_reach, .inl (cI, 100, .inl (u.2.2.1)))]) := by
  refine met_i (ty := .int) (Or.inl rfl) (cc := cX2_pick) (maxL := 7) (by decide) rfl (Nat.le_of_ble_eq_true rfl) ?_
  intro p e s m args below meth c A Q H locs ls K hG hl hret
  have hl : lv_has ls 7 [(0, .ref a_this), (1, .ref a_p1), (2, .int x2)] := hl
  have hin_RX2 : ∀ w ∈ u_ws RX2 TX2 5, w ∈ wsX2_pick := by decide +kernel
  have hin_RX3 : ∀ w ∈ u_ws RX3 TX3 6, w ∈ wsX2_pick := by decide +kernel
  unfold wp_X2_pick at hw
  refine lv_iload_n K.1 K.2.1 dX2_pick_0 rfl (lv_at hl 2 rfl) ?_
  refine lv_i2l K.1 K.2.1 dX2_pick_1 rfl ?_
  refine lv_ldc2 (v := 281479271743489) K.1 K.2.1 K.2.2.2.1 (K.2.2.2.2.1 (.constantLong RX2 26 (281479271743489)) (by decide +kernel)) dX2_pick_2 ?_
  refine lv_lmul K.1 K.2.1 dX2_pick_5 ?_
  refine lv_lstore_n (lv' := [(3, .long ((x2.toInt64) * (281479271743489 : Int64))), (0, .ref a_this), (1, .ref a_p1), (2, .int x2)]) K.1 K.2.1 dX2_pick_6 rfl hl (by decide) rfl (fun ls hl => ?_)
  refine lv_aload_n K.1 K.2.1 dX2_pick_7 rfl (lv_at hl 1 rfl) ?_
  refine lv_aload_n K.1 K.2.1 dX2_pick_8 rfl (lv_at hl 2 rfl) ?_
  refine g_get (v := .int c_p1_size) K hG hin_RX3 0 rfl rfl 3 (by decide) (K.2.2.2.2.1 (.fieldLink RX2 28 "AimFronts$Front" "size" "I") (by decide +kernel)) rfl rfl dX2_pick_9 ?_
  refine lv_bipush (v := 100) K.1 K.2.1 dX2_pick_12 (by decide) ?_
  refine va_mmin K.1 K.2.1 (K.2.2.1.trans hl.1.symm) K.2.2.2.1 (K.2.2.2.2.1 (.methodLink RX2 31 Lib.Math.min.name) (by decide +kernel)) (K.2.2.2.2.1 (.static Lib.Math.min.name) (by decide +kernel)) (K.2.2.2.2.1 (.initialized "java/lang/Math") (by decide +kernel)) (K.2.2.2.2.1 (.code Lib.Math.min.name Lib.Math.min.code 2 (some .int)) (by decide +kernel)) (Nat.le_of_ble_eq_true rfl) (Nat.le_of_ble_eq_true rfl) (Nat.zero_le _) (Nat.zero_le _) dX2_pick_14 ?_
  refine g_put (v := .int (if (100 : Int32) < c_p1_size then (100 : Int32) else c_p1_size)) (ws' := [(a_p1, .inr (3, [.ref a_p1_scores, .ref a_p1_points, .ref a_p1_counts, .int c_p1_size, .ref a_p1_ideals, .ref a_p1_scales])), (a_p1_scores, .inl (cJ, 2000, .inr (.inl c_p1_scores))), (a_this, .inr (2, [.ref a_this_picks, .ref a_this_reach, .ref a_this_covered, .int (if (100 : Int32) < c_p1_size then (100 : Int32) else c_p1_size), .int c_this_size])), (a_this_covered, .inl (cZ, 100, .inl c_this_covered)), (a_this_picks, .inl (cI, 100, .inl c_this_picks)), (a_this_reach, .inl (cI, 100, .inl c_this_reach))]) K hG hin_RX2 tyX2 tyX2_ok nmX2 2 rfl rfl 3 (by decide) (K.2.2.2.2.1 (.fieldLink RX2 37 "AimFronts$Cover" "scores" "I") (by decide +kernel)) rfl rfl rfl rfl (Nat.le_of_ble_eq_true rfl) rfl dX2_pick_17 (fun H locs hG => ?_)
  refine lv_iconst (v := 0) K.1 K.2.1 dX2_pick_20 (by decide) ?_
  refine lv_istore (lv' := [(5, .int (0 : Int32)), (3, .long ((x2.toInt64) * (281479271743489 : Int64))), (0, .ref a_this), (1, .ref a_p1), (2, .int x2)]) K.1 K.2.1 dX2_pick_21 hl (by decide) rfl (fun ls hl => ?_)
  obtain ⟨kx_23, hkx_23, n_23, hw⟩ := Lx2_3_abs hw
  have hX_23 : ∀ (c_this_covered_23e : Nat → Int32) (c_this_reach_23e : Nat → Int32) (H : Heap) (locs : List Loc) (ls : Array Slot), kx_23 c_this_covered_23e c_this_reach_23e → HW (dC, dI) A s.heap [(a_p1, .inr (3, [.ref a_p1_scores, .ref a_p1_points, .ref a_p1_counts, .int c_p1_size, .ref a_p1_ideals, .ref a_p1_scales])), (a_p1_scores, .inl (cJ, 2000, .inr (.inl c_p1_scores))), (a_this, .inr (2, [.ref a_this_picks, .ref a_this_reach, .ref a_this_covered, .int (if (100 : Int32) < c_p1_size then (100 : Int32) else c_p1_size), .int c_this_size])), (a_this_covered, .inl (cZ, 100, .inl c_this_covered_23e)), (a_this_picks, .inl (cI, 100, .inl c_this_picks)), (a_this_reach, .inl (cI, 100, .inl c_this_reach_23e))] H locs → lv_has ls 7 [(0, .ref a_this), (1, .ref a_p1), (3, .long ((x2.toInt64) * (281479271743489 : Int64)))] → W p l e rm_X2_pick s m args below meth c H locs 0 0 Q (F0 m 54 ls []) := by
    intro c_this_covered_23e c_this_reach_23e H locs ls hw hG hl
    have hw := hkx_23 _ _ hw
    refine lv_iconst (v := 0) K.1 K.2.1 dX2_pick_54 (by decide) ?_
    refine lv_istore (lv' := [(5, .int (0 : Int32)), (0, .ref a_this), (1, .ref a_p1), (3, .long ((x2.toInt64) * (281479271743489 : Int64)))]) K.1 K.2.1 dX2_pick_55 hl (by decide) rfl (fun ls hl => ?_)
    obtain ⟨kx_57, hkx_57, n_57, hw⟩ := Lx1_2_abs hw
    have hX_57 : ∀ (c_this_reach_57e : Nat → Int32) (H : Heap) (locs : List Loc) (ls : Array Slot), kx_57 c_this_reach_57e → HW (dC, dI) A s.heap [(a_p1, .inr (3, [.ref a_p1_scores, .ref a_p1_points, .ref a_p1_counts, .int c_p1_size, .ref a_p1_ideals, .ref a_p1_scales])), (a_p1_scores, .inl (cJ, 2000, .inr (.inl c_p1_scores))), (a_this, .inr (2, [.ref a_this_picks, .ref a_this_reach, .ref a_this_covered, .int (if (100 : Int32) < c_p1_size then (100 : Int32) else c_p1_size), .int c_this_size])), (a_this_covered, .inl (cZ, 100, .inl c_this_covered_23e)), (a_this_picks, .inl (cI, 100, .inl c_this_picks)), (a_this_reach, .inl (cI, 100, .inl c_this_reach_57e))] H locs → lv_has ls 7 [(0, .ref a_this), (1, .ref a_p1), (3, .long ((x2.toInt64) * (281479271743489 : Int64)))] → W p l e rm_X2_pick s m args below meth c H locs 0 0 Q (F0 m 81 ls []) := by
      intro c_this_reach_57e H locs ls hw hG hl
      have hw := hkx_57 _ hw
      refine lv_aload_n K.1 K.2.1 dX2_pick_81 rfl (lv_at hl 0 rfl) ?_
      refine lv_iconst (v := 0) K.1 K.2.1 dX2_pick_82 (by decide) ?_
      refine g_put (v := .int (0 : Int32)) (ws' := [(a_p1, .inr (3, [.ref a_p1_scores, .ref a_p1_points, .ref a_p1_counts, .int c_p1_size, .ref a_p1_ideals, .ref a_p1_scales])), (a_p1_scores, .inl (cJ, 2000, .inr (.inl c_p1_scores))), (a_this, .inr (2, [.ref a_this_picks, .ref a_this_reach, .ref a_this_covered, .int (if (100 : Int32) < c_p1_size then (100 : Int32) else c_p1_size), .int (0 : Int32)])), (a_this_covered, .inl (cZ, 100, .inl c_this_covered_23e)), (a_this_picks, .inl (cI, 100, .inl c_this_picks)), (a_this_reach, .inl (cI, 100, .inl c_this_reach_57e))]) K hG hin_RX2 tyX2 tyX2_ok nmX2 2 rfl rfl 4 (by decide) (K.2.2.2.2.1 (.fieldLink RX2 20 "AimFronts$Cover" "size" "I") (by decide +kernel)) rfl rfl rfl rfl (Nat.le_of_ble_eq_true rfl) rfl dX2_pick_83 (fun H locs hG => ?_)
      refine lv_aload_n K.1 K.2.1 dX2_pick_86 rfl (lv_at hl 0 rfl) ?_
      refine g_get (v := .int (if (100 : Int32) < c_p1_size then (100 : Int32) else c_p1_size)) K hG hin_RX2 2 rfl rfl 3 (by decide) (K.2.2.2.2.1 (.fieldLink RX2 37 "AimFronts$Cover" "scores" "I") (by decide +kernel)) rfl rfl dX2_pick_87 ?_
      refine lv_istore (lv' := [(5, .int (if (100 : Int32) < c_p1_size then (100 : Int32) else c_p1_size)), (0, .ref a_this), (1, .ref a_p1), (3, .long ((x2.toInt64) * (281479271743489 : Int64)))]) K.1 K.2.1 dX2_pick_90 hl (by decide) rfl (fun ls hl => ?_)
      refine lv_iconst (v := 0) K.1 K.2.1 dX2_pick_92 (by decide) ?_
      refine lv_istore (lv' := [(6, .int (0 : Int32)), (5, .int (if (100 : Int32) < c_p1_size then (100 : Int32) else c_p1_size)), (0, .ref a_this), (1, .ref a_p1), (3, .long ((x2.toInt64) * (281479271743489 : Int64)))]) K.1 K.2.1 dX2_pick_93 hl (by decide) rfl (fun ls hl => ?_)
      obtain ⟨kx_95, hkx_95, n_95, hw⟩ := Lx4_6_abs hw
      have hX_95 : ∀ (c_this_covered_95e : Nat → Int32) (c_this_picks_95e : Nat → Int32) (c_this_reach_95e : Nat → Int32) (c_this_size_95e : Int32) (H : Heap) (locs : List Loc) (ls : Array Slot), kx_95 c_this_covered_95e c_this_picks_95e c_this_reach_95e c_this_size_95e → HW (dC, dI) A s.heap [(a_p1, .inr (3, [.ref a_p1_scores, .ref a_p1_points, .ref a_p1_counts, .int c_p1_size, .ref a_p1_ideals, .ref a_p1_scales])), (a_p1_scores, .inl (cJ, 2000, .inr (.inl c_p1_scores))), (a_this, .inr (2, [.ref a_this_picks, .ref a_this_reach, .ref a_this_covered, .int (if (100 : Int32) < c_p1_size then (100 : Int32) else c_p1_size), .int c_this_size_95e])), (a_this_covered, .inl (cZ, 100, .inl c_this_covered_95e)), (a_this_picks, .inl (cI, 100, .inl c_this_picks_95e)), (a_this_reach, .inl (cI, 100, .inl c_this_reach_95e))] H locs → lv_has ls 7 [(0, .ref a_this)] → W p l e rm_X2_pick s m args below meth c H locs 0 0 Q (F0 m 152 ls []) := by
        intro c_this_covered_95e c_this_picks_95e c_this_reach_95e c_this_size_95e H locs ls hw hG hl
        have hw := hkx_95 _ _ _ _ hw
        refine lv_aload_n K.1 K.2.1 dX2_pick_152 rfl (lv_at hl 0 rfl) ?_
        refine g_get (v := .int c_this_size_95e) K hG hin_RX2 2 rfl rfl 4 (by decide) (K.2.2.2.2.1 (.fieldLink RX2 20 "AimFronts$Cover" "size" "I") (by decide +kernel)) rfl rfl dX2_pick_153 ?_
        exact hret c_this_size_95e (c_this_covered_95e, c_this_picks_95e, c_this_reach_95e, (if (100 : Int32) < c_p1_size then (100 : Int32) else c_p1_size), c_this_size_95e) H locs _ ls dX2_pick_156 rfl hw hG
      have hL_95 : ∀ (n : Nat), ∀ (v5_95 : Int32) (v6_95 : Int32) (c_this_covered_95 : Nat → Int32) (c_this_picks_95 : Nat → Int32) (c_this_reach_95 : Nat → Int32) (c_this_size_95 : Int32) (H : Heap) (locs : List Loc) (ls : Array Slot), Lp6 (b_X2_pick_95 c_p1_size c_p1_scores x2 kx_95) n v5_95 v6_95 c_this_covered_95 c_this_picks_95 c_this_reach_95 c_this_size_95 → HW (dC, dI) A s.heap [(a_p1, .inr (3, [.ref a_p1_scores, .ref a_p1_points, .ref a_p1_counts, .int c_p1_size, .ref a_p1_ideals, .ref a_p1_scales])), (a_p1_scores, .inl (cJ, 2000, .inr (.inl c_p1_scores))), (a_this, .inr (2, [.ref a_this_picks, .ref a_this_reach, .ref a_this_covered, .int (if (100 : Int32) < c_p1_size then (100 : Int32) else c_p1_size), .int c_this_size_95])), (a_this_covered, .inl (cZ, 100, .inl c_this_covered_95)), (a_this_picks, .inl (cI, 100, .inl c_this_picks_95)), (a_this_reach, .inl (cI, 100, .inl c_this_reach_95))] H locs → lv_has ls 7 [(0, .ref a_this), (1, .ref a_p1), (3, .long ((x2.toInt64) * (281479271743489 : Int64))), (5, .int v5_95), (6, .int v6_95)] → W p l e rm_X2_pick s m args below meth c H locs 0 0 Q (F0 m 95 ls []) := by
        intro n
        induction n with
        | zero => intro v5_95 v6_95 c_this_covered_95 c_this_picks_95 c_this_reach_95 c_this_size_95 H locs ls hw; exact False.elim hw
        | succ n ih_95 =>
          intro v5_95 v6_95 c_this_covered_95 c_this_picks_95 c_this_reach_95 c_this_size_95 H locs ls hw hG hl
          obtain ⟨w_95, hw_95, hw⟩ : ∃ w' : Int32 → Int32 → (Nat → Int32) → (Nat → Int32) → (Nat → Int32) → Int32 → Prop, (∀ v5_95 v6_95 c_this_covered_95 c_this_picks_95 c_this_reach_95 c_this_size_95, w' v5_95 v6_95 c_this_covered_95 c_this_picks_95 c_this_reach_95 c_this_size_95 → Lp6 (b_X2_pick_95 c_p1_size c_p1_scores x2 kx_95) n v5_95 v6_95 c_this_covered_95 c_this_picks_95 c_this_reach_95 c_this_size_95) ∧ b_X2_pick_95 c_p1_size c_p1_scores x2 kx_95 w' v5_95 v6_95 c_this_covered_95 c_this_picks_95 c_this_reach_95 c_this_size_95 := ⟨_, fun _ _ _ _ _ _ h => h, hw⟩
          replace ih_95 : ∀ (v5_95 : Int32) (v6_95 : Int32) (c_this_covered_95 : Nat → Int32) (c_this_picks_95 : Nat → Int32) (c_this_reach_95 : Nat → Int32) (c_this_size_95 : Int32) (H : Heap) (locs : List Loc) (ls : Array Slot), w_95 v5_95 v6_95 c_this_covered_95 c_this_picks_95 c_this_reach_95 c_this_size_95 → HW (dC, dI) A s.heap [(a_p1, .inr (3, [.ref a_p1_scores, .ref a_p1_points, .ref a_p1_counts, .int c_p1_size, .ref a_p1_ideals, .ref a_p1_scales])), (a_p1_scores, .inl (cJ, 2000, .inr (.inl c_p1_scores))), (a_this, .inr (2, [.ref a_this_picks, .ref a_this_reach, .ref a_this_covered, .int (if (100 : Int32) < c_p1_size then (100 : Int32) else c_p1_size), .int c_this_size_95])), (a_this_covered, .inl (cZ, 100, .inl c_this_covered_95)), (a_this_picks, .inl (cI, 100, .inl c_this_picks_95)), (a_this_reach, .inl (cI, 100, .inl c_this_reach_95))] H locs → lv_has ls 7 [(0, .ref a_this), (1, .ref a_p1), (3, .long ((x2.toInt64) * (281479271743489 : Int64))), (5, .int v5_95), (6, .int v6_95)] → W p l e rm_X2_pick s m args below meth c H locs 0 0 Q (F0 m 95 ls []) := fun v5_95 v6_95 c_this_covered_95 c_this_picks_95 c_this_reach_95 c_this_size_95 H locs ls h => ih_95 v5_95 v6_95 c_this_covered_95 c_this_picks_95 c_this_reach_95 c_this_size_95 H locs ls (hw_95 _ _ _ _ _ _ h)
          unfold b_X2_pick_95 at hw
          refine lv_iload K.1 K.2.1 dX2_pick_95 (lv_at hl 4 rfl) ?_
          refine lv_aload_n K.1 K.2.1 dX2_pick_97 rfl (lv_at hl 0 rfl) ?_
          refine g_get (v := .int (if (100 : Int32) < c_p1_size then (100 : Int32) else c_p1_size)) K hG hin_RX2 2 rfl rfl 3 (by decide) (K.2.2.2.2.1 (.fieldLink RX2 37 "AimFronts$Cover" "scores" "I") (by decide +kernel)) rfl rfl dX2_pick_98 ?_
          refine lv_icmp_ge (tgt := 152) K.1 K.2.1 dX2_pick_101 (by decide) (fun q_101 => ?_) (fun q_101 => ?_)
          · have hw := hw.1 q_101
            exact hX_95 c_this_covered_95 c_this_picks_95 c_this_reach_95 c_this_size_95 H locs ls hw hG (lv_sub hl [0] rfl)
          · have hw := hw.2 q_101
            refine lv_iload K.1 K.2.1 dX2_pick_104 (lv_at hl 3 rfl) ?_
            refine lv_if_le (tgt := 152) K.1 K.2.1 dX2_pick_106 (by decide) (fun q_106 => ?_) (fun q_106 => ?_)
            · have hw := hw.1 q_106
              exact hX_95 c_this_covered_95 c_this_picks_95 c_this_reach_95 c_this_size_95 H locs ls hw hG (lv_sub hl [0] rfl)
            · have hw := hw.2 q_106
              refine lv_aload_n K.1 K.2.1 dX2_pick_109 rfl (lv_at hl 0 rfl) ?_
              refine g_get (v := .ref a_this_picks) K hG hin_RX2 2 rfl rfl 0 (by decide) (K.2.2.2.2.1 (.fieldLink RX2 9 "AimFronts$Cover" "picks" "[I") (by decide +kernel)) rfl rfl dX2_pick_110 ?_
              refine lv_iload K.1 K.2.1 dX2_pick_113 (lv_at hl 4 rfl) ?_
              refine lv_aload_n K.1 K.2.1 dX2_pick_115 rfl (lv_at hl 0 rfl) ?_
              refine g_ri K hG [2, 5] rfl (g_runV (As := []) (rest := [.int v6_95, .ref a_this_picks]) K hG hl [2, 5] rfl rfl 2 rfl rfl (k_X2_furthest l dC dI cI cJ cZ cG H.size a_this a_this_picks a_this_reach a_this_covered c_this_reach_95 (if (100 : Int32) < c_p1_size then (100 : Int32) else c_p1_size) c_this_size_95 _ hw) (cwV 0 K.2.2.2.2.1 gX2_pick_X2_furthest rfl rfl rfl (by decide +kernel) ⟨by decide, by decide⟩) rfl rfl (Nat.le_of_ble_eq_true rfl) ⟨Nat.zero_le _, Nat.zero_le _⟩ dX2_pick_116) (fun r_116 H locs hw hG => ?_)
              obtain ⟨h_119, hw⟩ := hw
              refine g_iast (ws' := [(a_p1, .inr (3, [.ref a_p1_scores, .ref a_p1_points, .ref a_p1_counts, .int c_p1_size, .ref a_p1_ideals, .ref a_p1_scales])), (a_p1_scores, .inl (cJ, 2000, .inr (.inl c_p1_scores))), (a_this, .inr (2, [.ref a_this_picks, .ref a_this_reach, .ref a_this_covered, .int (if (100 : Int32) < c_p1_size then (100 : Int32) else c_p1_size), .int c_this_size_95])), (a_this_covered, .inl (cZ, 100, .inl c_this_covered_95)), (a_this_picks, .inl (cI, 100, .inl (upd c_this_picks_95 (v6_95).toNatClampNeg r_116))), (a_this_reach, .inl (cI, 100, .inl c_this_reach_95))]) K hG 4 rfl h_119 rfl dX2_pick_119 (fun H locs hG => ?_)
              refine lv_iload K.1 K.2.1 dX2_pick_120 (lv_at hl 3 rfl) ?_
              refine lv_aload_n K.1 K.2.1 dX2_pick_122 rfl (lv_at hl 0 rfl) ?_
              refine lv_aload_n K.1 K.2.1 dX2_pick_123 rfl (lv_at hl 1 rfl) ?_
              refine lv_aload_n K.1 K.2.1 dX2_pick_124 rfl (lv_at hl 0 rfl) ?_
              refine g_get (v := .ref a_this_picks) K hG hin_RX2 2 rfl rfl 0 (by decide) (K.2.2.2.2.1 (.fieldLink RX2 9 "AimFronts$Cover" "picks" "[I") (by decide +kernel)) rfl rfl dX2_pick_125 ?_
              refine lv_iload K.1 K.2.1 dX2_pick_128 (lv_at hl 4 rfl) ?_
              obtain ⟨h_130, hw⟩ := hw
              refine g_iald K hG 4 rfl h_130 dX2_pick_130 ?_
              refine lv_lload_n K.1 K.2.1 dX2_pick_131 rfl (lv_at hl 2 rfl) ?_
              refine g_ni (w2 := (fun u => [(a_p1, .inr (3, [.ref a_p1_scores, .ref a_p1_points, .ref a_p1_counts, .int c_p1_size, .ref a_p1_ideals, .ref a_p1_scales])), (a_p1_scores, .inl (cJ, 2000, .inr (.inl c_p1_scores))), (a_this, .inr (2, [.ref a_this_picks, .ref a_this_reach, .ref a_this_covered, .int (if (100 : Int32) < c_p1_size then (100 : Int32) else c_p1_size), .int c_this_size_95])), (a_this_covered, .inl (cZ, 100, .inl (u.1))), (a_this_picks, .inl (cI, 100, .inl (upd c_this_picks_95 (v6_95).toNatClampNeg r_116))), (a_this_reach, .inl (cI, 100, .inl (u.2)))])) (wr := [(a_this_picks, .inl (cI, 100, .inl (upd c_this_picks_95 (v6_95).toNatClampNeg r_116)))]) K hG [0, 1, 2, 3, 5] [4] 6 rfl (g_runV (As := [.ref a_p1, .int ((upd c_this_picks_95 (v6_95).toNatClampNeg r_116) (v6_95).toNatClampNeg), .long ((x2.toInt64) * (281479271743489 : Int64))]) (rest := [.int v5_95]) K hG hl [0, 1, 2, 3, 5] rfl rfl 2 rfl rfl (k_X2_coverFrom l dC dI cI cJ cZ cG H.size a_p1 a_p1_scores a_p1_points a_p1_counts a_p1_ideals a_p1_scales a_this a_this_picks a_this_reach a_this_covered c_p1_scores c_p1_size c_this_covered_95 c_this_reach_95 (if (100 : Int32) < c_p1_size then (100 : Int32) else c_p1_size) c_this_size_95 ((upd c_this_picks_95 (v6_95).toNatClampNeg r_116) (v6_95).toNatClampNeg) ((x2.toInt64) * (281479271743489 : Int64)) _ hw) (cwV 3 K.2.2.2.2.1 gX2_pick_X2_coverFrom rfl rfl rfl (by decide +kernel) ⟨by decide, by decide⟩) rfl rfl (Nat.le_of_ble_eq_true rfl) ⟨Nat.zero_le _, Nat.zero_le _⟩ dX2_pick_132) (fun _ => rfl) (fun _ => rfl) rfl (fun _ => rfl) (fun _ => rfl) (by decide) (by decide) (by decide) (fun r_132 u H locs hw hG => ?_)
              obtain ⟨c_this_covered_132, c_this_reach_132⟩ := u
              have hG : HW (dC, dI) A s.heap [(a_p1, .inr (3, [.ref a_p1_scores, .ref a_p1_points, .ref a_p1_counts, .int c_p1_size, .ref a_p1_ideals, .ref a_p1_scales])), (a_p1_scores, .inl (cJ, 2000, .inr (.inl c_p1_scores))), (a_this, .inr (2, [.ref a_this_picks, .ref a_this_reach, .ref a_this_covered, .int (if (100 : Int32) < c_p1_size then (100 : Int32) else c_p1_size), .int c_this_size_95])), (a_this_covered, .inl (cZ, 100, .inl c_this_covered_132)), (a_this_picks, .inl (cI, 100, .inl (upd c_this_picks_95 (v6_95).toNatClampNeg r_116))), (a_this_reach, .inl (cI, 100, .inl c_this_reach_132))] H locs := hG
              refine lv_isub K.1 K.2.1 dX2_pick_135 ?_
              refine lv_istore (lv' := [(5, .int (v5_95 - r_132)), (0, .ref a_this), (1, .ref a_p1), (3, .long ((x2.toInt64) * (281479271743489 : Int64))), (6, .int v6_95)]) K.1 K.2.1 dX2_pick_136 hl (by decide) rfl (fun ls hl => ?_)
              refine lv_aload_n K.1 K.2.1 dX2_pick_138 rfl (lv_at hl 1 rfl) ?_
              refine lv_iload K.1 K.2.1 dX2_pick_139 (lv_at hl 4 rfl) ?_
              refine lv_iconst (v := 1) K.1 K.2.1 dX2_pick_141 (by decide) ?_
              refine lv_iadd K.1 K.2.1 dX2_pick_142 ?_
              refine g_put (v := .int (v6_95 + (1 : Int32))) (ws' := [(a_p1, .inr (3, [.ref a_p1_scores, .ref a_p1_points, .ref a_p1_counts, .int c_p1_size, .ref a_p1_ideals, .ref a_p1_scales])), (a_p1_scores, .inl (cJ, 2000, .inr (.inl c_p1_scores))), (a_this, .inr (2, [.ref a_this_picks, .ref a_this_reach, .ref a_this_covered, .int (if (100 : Int32) < c_p1_size then (100 : Int32) else c_p1_size), .int (v6_95 + (1 : Int32))])), (a_this_covered, .inl (cZ, 100, .inl c_this_covered_132)), (a_this_picks, .inl (cI, 100, .inl (upd c_this_picks_95 (v6_95).toNatClampNeg r_116))), (a_this_reach, .inl (cI, 100, .inl c_this_reach_132))]) K hG hin_RX2 tyX2 tyX2_ok nmX2 2 rfl rfl 4 (by decide) (K.2.2.2.2.1 (.fieldLink RX2 20 "AimFronts$Cover" "size" "I") (by decide +kernel)) rfl rfl rfl rfl (Nat.le_of_ble_eq_true rfl) rfl dX2_pick_143 (fun H locs hG => ?_)
              refine lv_iinc (v := (v6_95 + (1 : Int32))) (lv' := [(6, .int (v6_95 + (1 : Int32))), (5, .int (v5_95 - r_132)), (0, .ref a_this), (1, .ref a_p1), (3, .long ((x2.toInt64) * (281479271743489 : Int64)))]) K.1 K.2.1 dX2_pick_146 hl (k := 4) rfl rfl (by decide) rfl (fun ls hl => ?_)
              refine lv_goto (tgt := 95) K.1 K.2.1 dX2_pick_149 (by decide) ?_
              exact ih_95 (v5_95 - r_132) (v6_95 + (1 : Int32)) c_this_covered_132 (upd c_this_picks_95 (v6_95).toNatClampNeg r_116) c_this_reach_132 (v6_95 + (1 : Int32)) H locs ls hw hG (lv_sub hl [2, 3, 4, 1, 0] rfl)
      exact hL_95 n_95 (if (100 : Int32) < c_p1_size then (100 : Int32) else c_p1_size) (0 : Int32) c_this_covered_23e c_this_picks c_this_reach_57e (0 : Int32) H locs ls hw hG (lv_sub hl [2, 3, 4, 1, 0] rfl)
    have hL_57 : ∀ (n : Nat), ∀ (v5_57 : Int32) (c_this_reach_57 : Nat → Int32) (H : Heap) (locs : List Loc) (ls : Array Slot), Lp2 (b_X2_pick_57 c_p1_size c_p1_scores x2 kx_57) n v5_57 c_this_reach_57 → HW (dC, dI) A s.heap [(a_p1, .inr (3, [.ref a_p1_scores, .ref a_p1_points, .ref a_p1_counts, .int c_p1_size, .ref a_p1_ideals, .ref a_p1_scales])), (a_p1_scores, .inl (cJ, 2000, .inr (.inl c_p1_scores))), (a_this, .inr (2, [.ref a_this_picks, .ref a_this_reach, .ref a_this_covered, .int (if (100 : Int32) < c_p1_size then (100 : Int32) else c_p1_size), .int c_this_size])), (a_this_covered, .inl (cZ, 100, .inl c_this_covered_23e)), (a_this_picks, .inl (cI, 100, .inl c_this_picks)), (a_this_reach, .inl (cI, 100, .inl c_this_reach_57))] H locs → lv_has ls 7 [(0, .ref a_this), (1, .ref a_p1), (3, .long ((x2.toInt64) * (281479271743489 : Int64))), (5, .int v5_57)] → W p l e rm_X2_pick s m args below meth c H locs 0 0 Q (F0 m 57 ls []) := by
      intro n
      induction n with
      | zero => intro v5_57 c_this_reach_57 H locs ls hw; exact False.elim hw
      | succ n ih_57 =>
        intro v5_57 c_this_reach_57 H locs ls hw hG hl
        obtain ⟨w_57, hw_57, hw⟩ : ∃ w' : Int32 → (Nat → Int32) → Prop, (∀ v5_57 c_this_reach_57, w' v5_57 c_this_reach_57 → Lp2 (b_X2_pick_57 c_p1_size c_p1_scores x2 kx_57) n v5_57 c_this_reach_57) ∧ b_X2_pick_57 c_p1_size c_p1_scores x2 kx_57 w' v5_57 c_this_reach_57 := ⟨_, fun _ _ h => h, hw⟩
        replace ih_57 : ∀ (v5_57 : Int32) (c_this_reach_57 : Nat → Int32) (H : Heap) (locs : List Loc) (ls : Array Slot), w_57 v5_57 c_this_reach_57 → HW (dC, dI) A s.heap [(a_p1, .inr (3, [.ref a_p1_scores, .ref a_p1_points, .ref a_p1_counts, .int c_p1_size, .ref a_p1_ideals, .ref a_p1_scales])), (a_p1_scores, .inl (cJ, 2000, .inr (.inl c_p1_scores))), (a_this, .inr (2, [.ref a_this_picks, .ref a_this_reach, .ref a_this_covered, .int (if (100 : Int32) < c_p1_size then (100 : Int32) else c_p1_size), .int c_this_size])), (a_this_covered, .inl (cZ, 100, .inl c_this_covered_23e)), (a_this_picks, .inl (cI, 100, .inl c_this_picks)), (a_this_reach, .inl (cI, 100, .inl c_this_reach_57))] H locs → lv_has ls 7 [(0, .ref a_this), (1, .ref a_p1), (3, .long ((x2.toInt64) * (281479271743489 : Int64))), (5, .int v5_57)] → W p l e rm_X2_pick s m args below meth c H locs 0 0 Q (F0 m 57 ls []) := fun v5_57 c_this_reach_57 H locs ls h => ih_57 v5_57 c_this_reach_57 H locs ls (hw_57 _ _ h)
        unfold b_X2_pick_57 at hw
        refine lv_iload K.1 K.2.1 dX2_pick_57 (lv_at hl 3 rfl) ?_
        refine lv_aload_n K.1 K.2.1 dX2_pick_59 rfl (lv_at hl 0 rfl) ?_
        refine g_get (v := .int (if (100 : Int32) < c_p1_size then (100 : Int32) else c_p1_size)) K hG hin_RX2 2 rfl rfl 3 (by decide) (K.2.2.2.2.1 (.fieldLink RX2 37 "AimFronts$Cover" "scores" "I") (by decide +kernel)) rfl rfl dX2_pick_60 ?_
        refine lv_icmp_ge (tgt := 81) K.1 K.2.1 dX2_pick_63 (by decide) (fun q_63 => ?_) (fun q_63 => ?_)
        · have hw := hw.1 q_63
          exact hX_57 c_this_reach_57 H locs ls hw hG (lv_sub hl [0, 1, 2] rfl)
        · have hw := hw.2 q_63
          refine lv_aload_n K.1 K.2.1 dX2_pick_66 rfl (lv_at hl 0 rfl) ?_
          refine lv_aload_n K.1 K.2.1 dX2_pick_67 rfl (lv_at hl 1 rfl) ?_
          refine lv_iload K.1 K.2.1 dX2_pick_68 (lv_at hl 3 rfl) ?_
          refine lv_lload_n K.1 K.2.1 dX2_pick_70 rfl (lv_at hl 2 rfl) ?_
          refine lv_iconst (v := 1) K.1 K.2.1 dX2_pick_71 (by decide) ?_
          refine g_nv (w2 := (fun u => [(a_p1, .inr (3, [.ref a_p1_scores, .ref a_p1_points, .ref a_p1_counts, .int c_p1_size, .ref a_p1_ideals, .ref a_p1_scales])), (a_p1_scores, .inl (cJ, 2000, .inr (.inl c_p1_scores))), (a_this, .inr (2, [.ref a_this_picks, .ref a_this_reach, .ref a_this_covered, .int (if (100 : Int32) < c_p1_size then (100 : Int32) else c_p1_size), .int c_this_size])), (a_this_covered, .inl (cZ, 100, .inl c_this_covered_23e)), (a_this_picks, .inl (cI, 100, .inl c_this_picks)), (a_this_reach, .inl (cI, 100, .inl u))])) (wr := [(a_this_covered, .inl (cZ, 100, .inl c_this_covered_23e)), (a_this_picks, .inl (cI, 100, .inl c_this_picks))]) K hG [0, 1, 2, 5] [3, 4] 6 rfl (g_runV (As := [.ref a_p1, .int v5_57, .long ((x2.toInt64) * (281479271743489 : Int64)), .int (1 : Int32)]) (rest := []) K hG hl [0, 1, 2, 5] rfl rfl 2 rfl rfl (k_X2_changeReach l dC dI cI cJ cZ cG H.size a_p1 a_p1_scores a_p1_points a_p1_counts a_p1_ideals a_p1_scales a_this a_this_picks a_this_reach a_this_covered c_p1_scores c_p1_size c_this_reach_57 (if (100 : Int32) < c_p1_size then (100 : Int32) else c_p1_size) c_this_size v5_57 ((x2.toInt64) * (281479271743489 : Int64)) (1 : Int32) _ hw) (cwV 4 K.2.2.2.2.1 gX2_pick_X2_changeReach rfl rfl rfl (by decide +kernel) ⟨by decide, by decide⟩) rfl rfl (Nat.le_of_ble_eq_true rfl) ⟨Nat.zero_le _, Nat.zero_le _⟩ dX2_pick_72) (fun _ => rfl) (fun _ => rfl) rfl (fun _ => rfl) (fun _ => rfl) (by decide) (by decide) (by decide) (fun u H locs hw hG => ?_)
          obtain ⟨c_this_reach_72, rfl⟩ : ∃ z, z = u := ⟨_, rfl⟩
          have hG : HW (dC, dI) A s.heap [(a_p1, .inr (3, [.ref a_p1_scores, .ref a_p1_points, .ref a_p1_counts, .int c_p1_size, .ref a_p1_ideals, .ref a_p1_scales])), (a_p1_scores, .inl (cJ, 2000, .inr (.inl c_p1_scores))), (a_this, .inr (2, [.ref a_this_picks, .ref a_this_reach, .ref a_this_covered, .int (if (100 : Int32) < c_p1_size then (100 : Int32) else c_p1_size), .int c_this_size])), (a_this_covered, .inl (cZ, 100, .inl c_this_covered_23e)), (a_this_picks, .inl (cI, 100, .inl c_this_picks)), (a_this_reach, .inl (cI, 100, .inl c_this_reach_72))] H locs := hG
          refine lv_iinc (v := (v5_57 + (1 : Int32))) (lv' := [(5, .int (v5_57 + (1 : Int32))), (0, .ref a_this), (1, .ref a_p1), (3, .long ((x2.toInt64) * (281479271743489 : Int64)))]) K.1 K.2.1 dX2_pick_75 hl (k := 3) rfl rfl (by decide) rfl (fun ls hl => ?_)
          refine lv_goto (tgt := 57) K.1 K.2.1 dX2_pick_78 (by decide) ?_
          exact ih_57 (v5_57 + (1 : Int32)) c_this_reach_72 H locs ls hw hG (lv_sub hl [1, 2, 3, 0] rfl)
    exact hL_57 n_57 (0 : Int32) c_this_reach_23e H locs ls hw hG (lv_sub hl [1, 2, 3, 0] rfl)
  have hL_23 : ∀ (n : Nat), ∀ (v5_23 : Int32) (c_this_covered_23 : Nat → Int32) (c_this_reach_23 : Nat → Int32) (H : Heap) (locs : List Loc) (ls : Array Slot), Lp3 (b_X2_pick_23 c_p1_size kx_23) n v5_23 c_this_covered_23 c_this_reach_23 → HW (dC, dI) A s.heap [(a_p1, .inr (3, [.ref a_p1_scores, .ref a_p1_points, .ref a_p1_counts, .int c_p1_size, .ref a_p1_ideals, .ref a_p1_scales])), (a_p1_scores, .inl (cJ, 2000, .inr (.inl c_p1_scores))), (a_this, .inr (2, [.ref a_this_picks, .ref a_this_reach, .ref a_this_covered, .int (if (100 : Int32) < c_p1_size then (100 : Int32) else c_p1_size), .int c_this_size])), (a_this_covered, .inl (cZ, 100, .inl c_this_covered_23)), (a_this_picks, .inl (cI, 100, .inl c_this_picks)), (a_this_reach, .inl (cI, 100, .inl c_this_reach_23))] H locs → lv_has ls 7 [(0, .ref a_this), (1, .ref a_p1), (3, .long ((x2.toInt64) * (281479271743489 : Int64))), (5, .int v5_23)] → W p l e rm_X2_pick s m args below meth c H locs 0 0 Q (F0 m 23 ls []) := by
    intro n
    induction n with
    | zero => intro v5_23 c_this_covered_23 c_this_reach_23 H locs ls hw; exact False.elim hw
    | succ n ih_23 =>
      intro v5_23 c_this_covered_23 c_this_reach_23 H locs ls hw hG hl
      obtain ⟨w_23, hw_23, hw⟩ : ∃ w' : Int32 → (Nat → Int32) → (Nat → Int32) → Prop, (∀ v5_23 c_this_covered_23 c_this_reach_23, w' v5_23 c_this_covered_23 c_this_reach_23 → Lp3 (b_X2_pick_23 c_p1_size kx_23) n v5_23 c_this_covered_23 c_this_reach_23) ∧ b_X2_pick_23 c_p1_size kx_23 w' v5_23 c_this_covered_23 c_this_reach_23 := ⟨_, fun _ _ _ h => h, hw⟩
      replace ih_23 : ∀ (v5_23 : Int32) (c_this_covered_23 : Nat → Int32) (c_this_reach_23 : Nat → Int32) (H : Heap) (locs : List Loc) (ls : Array Slot), w_23 v5_23 c_this_covered_23 c_this_reach_23 → HW (dC, dI) A s.heap [(a_p1, .inr (3, [.ref a_p1_scores, .ref a_p1_points, .ref a_p1_counts, .int c_p1_size, .ref a_p1_ideals, .ref a_p1_scales])), (a_p1_scores, .inl (cJ, 2000, .inr (.inl c_p1_scores))), (a_this, .inr (2, [.ref a_this_picks, .ref a_this_reach, .ref a_this_covered, .int (if (100 : Int32) < c_p1_size then (100 : Int32) else c_p1_size), .int c_this_size])), (a_this_covered, .inl (cZ, 100, .inl c_this_covered_23)), (a_this_picks, .inl (cI, 100, .inl c_this_picks)), (a_this_reach, .inl (cI, 100, .inl c_this_reach_23))] H locs → lv_has ls 7 [(0, .ref a_this), (1, .ref a_p1), (3, .long ((x2.toInt64) * (281479271743489 : Int64))), (5, .int v5_23)] → W p l e rm_X2_pick s m args below meth c H locs 0 0 Q (F0 m 23 ls []) := fun v5_23 c_this_covered_23 c_this_reach_23 H locs ls h => ih_23 v5_23 c_this_covered_23 c_this_reach_23 H locs ls (hw_23 _ _ _ h)
      unfold b_X2_pick_23 at hw
      refine lv_iload K.1 K.2.1 dX2_pick_23 (lv_at hl 3 rfl) ?_
      refine lv_aload_n K.1 K.2.1 dX2_pick_25 rfl (lv_at hl 0 rfl) ?_
      refine g_get (v := .int (if (100 : Int32) < c_p1_size then (100 : Int32) else c_p1_size)) K hG hin_RX2 2 rfl rfl 3 (by decide) (K.2.2.2.2.1 (.fieldLink RX2 37 "AimFronts$Cover" "scores" "I") (by decide +kernel)) rfl rfl dX2_pick_26 ?_
      refine lv_icmp_ge (tgt := 54) K.1 K.2.1 dX2_pick_29 (by decide) (fun q_29 => ?_) (fun q_29 => ?_)
      · have hw := hw.1 q_29
        exact hX_23 c_this_covered_23 c_this_reach_23 H locs ls hw hG (lv_sub hl [0, 1, 2] rfl)
      · have hw := hw.2 q_29
        refine lv_aload_n K.1 K.2.1 dX2_pick_32 rfl (lv_at hl 0 rfl) ?_
        refine g_get (v := .ref a_this_covered) K hG hin_RX2 2 rfl rfl 2 (by decide) (K.2.2.2.2.1 (.fieldLink RX2 16 "AimFronts$Cover" "covered" "[Z") (by decide +kernel)) rfl rfl dX2_pick_33 ?_
        refine lv_iload K.1 K.2.1 dX2_pick_36 (lv_at hl 3 rfl) ?_
        refine lv_iconst (v := 0) K.1 K.2.1 dX2_pick_38 (by decide) ?_
        obtain ⟨h_39, hw⟩ := hw
        refine g_zast (ws' := [(a_p1, .inr (3, [.ref a_p1_scores, .ref a_p1_points, .ref a_p1_counts, .int c_p1_size, .ref a_p1_ideals, .ref a_p1_scales])), (a_p1_scores, .inl (cJ, 2000, .inr (.inl c_p1_scores))), (a_this, .inr (2, [.ref a_this_picks, .ref a_this_reach, .ref a_this_covered, .int (if (100 : Int32) < c_p1_size then (100 : Int32) else c_p1_size), .int c_this_size])), (a_this_covered, .inl (cZ, 100, .inl (upd c_this_covered_23 (v5_23).toNatClampNeg (vp_nar .boolean (0 : Int32))))), (a_this_picks, .inl (cI, 100, .inl c_this_picks)), (a_this_reach, .inl (cI, 100, .inl c_this_reach_23))]) K hG 3 rfl h_39 rfl dX2_pick_39 (fun H locs hG => ?_)
        refine lv_aload_n K.1 K.2.1 dX2_pick_40 rfl (lv_at hl 0 rfl) ?_
        refine g_get (v := .ref a_this_reach) K hG hin_RX2 2 rfl rfl 1 (by decide) (K.2.2.2.2.1 (.fieldLink RX2 13 "AimFronts$Cover" "reach" "[I") (by decide +kernel)) rfl rfl dX2_pick_41 ?_
        refine lv_iload K.1 K.2.1 dX2_pick_44 (lv_at hl 3 rfl) ?_
        refine lv_iconst (v := 0) K.1 K.2.1 dX2_pick_46 (by decide) ?_
        obtain ⟨h_47, hw⟩ := hw
        refine g_iast (ws' := [(a_p1, .inr (3, [.ref a_p1_scores, .ref a_p1_points, .ref a_p1_counts, .int c_p1_size, .ref a_p1_ideals, .ref a_p1_scales])), (a_p1_scores, .inl (cJ, 2000, .inr (.inl c_p1_scores))), (a_this, .inr (2, [.ref a_this_picks, .ref a_this_reach, .ref a_this_covered, .int (if (100 : Int32) < c_p1_size then (100 : Int32) else c_p1_size), .int c_this_size])), (a_this_covered, .inl (cZ, 100, .inl (upd c_this_covered_23 (v5_23).toNatClampNeg (vp_nar .boolean (0 : Int32))))), (a_this_picks, .inl (cI, 100, .inl c_this_picks)), (a_this_reach, .inl (cI, 100, .inl (upd c_this_reach_23 (v5_23).toNatClampNeg (0 : Int32))))]) K hG 5 rfl h_47 rfl dX2_pick_47 (fun H locs hG => ?_)
        refine lv_iinc (v := (v5_23 + (1 : Int32))) (lv' := [(5, .int (v5_23 + (1 : Int32))), (0, .ref a_this), (1, .ref a_p1), (3, .long ((x2.toInt64) * (281479271743489 : Int64)))]) K.1 K.2.1 dX2_pick_48 hl (k := 3) rfl rfl (by decide) rfl (fun ls hl => ?_)
        refine lv_goto (tgt := 23) K.1 K.2.1 dX2_pick_51 (by decide) ?_
        exact ih_23 (v5_23 + (1 : Int32)) (upd c_this_covered_23 (v5_23).toNatClampNeg (vp_nar .boolean (0 : Int32))) (upd c_this_reach_23 (v5_23).toNatClampNeg (0 : Int32)) H locs ls hw hG (lv_sub hl [1, 2, 3, 0] rfl)
  exact hL_23 n_23 (0 : Int32) c_this_covered c_this_reach H locs ls hw hG (lv_sub hl [2, 3, 1, 0] rfl)
abbrev rm_X6_cover : Room := { frames := 5, cells := 0, slots := 0, locals := 126 }
set_option maxHeartbeats 4000000 in
set_option maxRecDepth 100000 in
theorem k_X6_cover (l : Launch) (dC : Nat → ClassId) (dI : Nat → Nat → Nat) (cI cJ cZ cG : ClassId) (sz : Nat) (a_this a_this_task a_this_front a_this_cover a_this_behind a_this_climber a_this_numbers a_this_asked a_this_cover_picks a_this_cover_reach a_this_cover_covered a_this_front_scores a_this_front_points a_this_front_counts a_this_front_ideals a_this_front_scales : Nat) (c_this_cover_covered : Nat → Int32) (c_this_cover_picks : Nat → Int32) (c_this_cover_reach : Nat → Int32) (c_this_cover_scores : Int32) (c_this_cover_size : Int32) (c_this_front_scores : Nat → Int64) (c_this_front_size : Int32) (c_this_gone : Int32) (c_this_met : Int32) (x1 : Int32) (post : Int32 → (Nat → Int32) → (Nat → Int32) → (Nat → Int32) → Int32 → Int32 → Prop) (hw : wp_X6_cover c_this_cover_covered c_this_cover_picks c_this_cover_reach c_this_cover_scores c_this_cover_size c_this_front_scores c_this_front_size x1 post) : MetI l yX6_cover wsX6_cover rm_X6_cover (dC, dI) cI cJ cZ cG [.ref a_this, .int x1] sz [(a_this, .inr (5, [.ref a_this_task, .ref a_this_front, .ref a_this_cover, .ref a_this_behind, .ref a_this_climber, .ref a_this_numbers, .ref a_this_asked, .int c_this_gone, .int c_this_met])), (a_this_cover, .inr (2, [.ref a_this_cover_picks, .ref a_this_cover_reach, .ref a_this_cover_covered, .int c_this_cover_scores, .int c_this_cover_size])), (a_this_cover_covered, .inl (cZ, 100, .inl c_this_cover_covered)), (a_this_cover_picks, .inl (cI, 100, .inl c_this_cover_picks)), (a_this_cover_reach, .inl (cI, 100, .inl c_this_cover_reach)), (a_this_front, .inr (3, [.ref a_this_front_scores, .ref a_this_front_points, .ref a_this_front_counts, .int c_this_front_size, .ref a_this_front_ideals, .ref a_this_front_scales])), (a_this_front_scores, .inl (cJ, 2000, .inr (.inl c_this_front_scores)))] (fun (r : Int32) (u : (Nat → Int32) × (Nat → Int32) × (Nat → Int32) × Int32 × Int32) => post r (u.1) (u.2.1) (u.2.2.1) (u.2.2.2.1) (u.2.2.2.2)) (fun u => [(a_this, .inr (5, [.ref a_this_task, .ref a_this_front, .ref a_this_cover, .ref a_this_behind, .ref a_this_climber, .ref a_this_numbers, .ref a_this_asked, .int c_this_gone, .int c_this_met])), (a_this_cover, .inr (2, [.ref a_this_cover_picks, .ref a_this_cover_reach, .ref a_this_cover_covered, .int (u.2.2.2.1), .int (u.2.2.2.2)])), (a_this_cover_covered, .inl (cZ, 100, .inl (u.1))), (a_this_cover_picks, .inl (cI, 100, .inl (u.2.1))), (a_this_cover_reach, .inl (cI, 100, .inl (u.2.2.1))), (a_this_front, .inr (3, [.ref a_this_front_scores, .ref a_this_front_points, .ref a_this_front_counts, .int c_this_front_size, .ref a_this_front_ideals, .ref a_this_front_scales])), (a_this_front_scores, .inl (cJ, 2000, .inr (.inl c_this_front_scores)))]) := by
  refine met_i (ty := .int) (Or.inl rfl) (cc := cX6_cover) (maxL := 2) (by decide) rfl (Nat.le_of_ble_eq_true rfl) ?_
  intro p e s m args below meth c A Q H locs ls K hG hl hret
  have hl : lv_has ls 2 [(0, .ref a_this), (1, .int x1)] := hl
  have hin_RX2 : ∀ w ∈ u_ws RX2 TX2 5, w ∈ wsX6_cover := by decide +kernel
  have hin_RX3 : ∀ w ∈ u_ws RX3 TX3 6, w ∈ wsX6_cover := by decide +kernel
  have hin_RX6 : ∀ w ∈ u_ws RX6 TX6 9, w ∈ wsX6_cover := by decide +kernel
  unfold wp_X6_cover at hw
  refine lv_iload_n K.1 K.2.1 dX6_cover_0 rfl (lv_at hl 1 rfl) ?_
  refine lv_if_lt (tgt := 11) K.1 K.2.1 dX6_cover_1 (by decide) (fun q_1 => ?_) (fun q_1 => ?_)
  · have hw := hw.1 q_1
    refine lv_ldc (v := -1000001) K.1 K.2.1 K.2.2.2.1 (K.2.2.2.2.1 (.constant RX6 55 (-1000001)) (by decide +kernel)) dX6_cover_11 ?_
    exact hret (-1000001 : Int32) (c_this_cover_covered, c_this_cover_picks, c_this_cover_reach, c_this_cover_scores, c_this_cover_size) H locs _ ls dX6_cover_13 rfl hw hG
  · have hw := hw.2 q_1
    refine lv_iload_n K.1 K.2.1 dX6_cover_4 rfl (lv_at hl 1 rfl) ?_
    refine lv_sipush (v := 4000) K.1 K.2.1 dX6_cover_5 (by decide) ?_
    refine lv_icmp_le (tgt := 14) K.1 K.2.1 dX6_cover_8 (by decide) (fun q_8 => ?_) (fun q_8 => ?_)
    · have hw := hw.1 q_8
      refine lv_aload_n K.1 K.2.1 dX6_cover_14 rfl (lv_at hl 0 rfl) ?_
      refine g_get (v := .ref a_this_front) K hG hin_RX6 0 rfl rfl 1 (by decide) (K.2.2.2.2.1 (.fieldLink RX6 19 "AimFronts" "front" "LAimFronts$Front;") (by decide +kernel)) rfl rfl dX6_cover_15 ?_
      refine g_get (v := .int c_this_front_size) K hG hin_RX3 5 rfl rfl 3 (by decide) (K.2.2.2.2.1 (.fieldLink RX6 121 "AimFronts$Front" "size" "I") (by decide +kernel)) rfl rfl dX6_cover_18 ?_
      refine lv_bipush (v := 100) K.1 K.2.1 dX6_cover_21 (by decide) ?_
      refine lv_icmp_le (tgt := 31) K.1 K.2.1 dX6_cover_23 (by decide) (fun q_23 => ?_) (fun q_23 => ?_)
      · have hw := hw.1 q_23
        refine lv_aload_n K.1 K.2.1 dX6_cover_31 rfl (lv_at hl 0 rfl) ?_
        refine g_get (v := .ref a_this_cover) K hG hin_RX6 0 rfl rfl 2 (by decide) (K.2.2.2.2.1 (.fieldLink RX6 26 "AimFronts" "cover" "LAimFronts$Cover;") (by decide +kernel)) rfl rfl dX6_cover_32 ?_
        refine lv_aload_n K.1 K.2.1 dX6_cover_35 rfl (lv_at hl 0 rfl) ?_
        refine g_get (v := .ref a_this_front) K hG hin_RX6 0 rfl rfl 1 (by decide) (K.2.2.2.2.1 (.fieldLink RX6 19 "AimFronts" "front" "LAimFronts$Front;") (by decide +kernel)) rfl rfl dX6_cover_36 ?_
        refine lv_iload_n K.1 K.2.1 dX6_cover_39 rfl (lv_at hl 1 rfl) ?_
        refine g_ni (w2 := (fun u => [(a_this, .inr (5, [.ref a_this_task, .ref a_this_front, .ref a_this_cover, .ref a_this_behind, .ref a_this_climber, .ref a_this_numbers, .ref a_this_asked, .int c_this_gone, .int c_this_met])), (a_this_cover, .inr (2, [.ref a_this_cover_picks, .ref a_this_cover_reach, .ref a_this_cover_covered, .int (u.2.2.2.1), .int (u.2.2.2.2)])), (a_this_cover_covered, .inl (cZ, 100, .inl (u.1))), (a_this_cover_picks, .inl (cI, 100, .inl (u.2.1))), (a_this_cover_reach, .inl (cI, 100, .inl (u.2.2.1))), (a_this_front, .inr (3, [.ref a_this_front_scores, .ref a_this_front_points, .ref a_this_front_counts, .int c_this_front_size, .ref a_this_front_ideals, .ref a_this_front_scales])), (a_this_front_scores, .inl (cJ, 2000, .inr (.inl c_this_front_scores)))])) (wr := [(a_this, .inr (5, [.ref a_this_task, .ref a_this_front, .ref a_this_cover, .ref a_this_behind, .ref a_this_climber, .ref a_this_numbers, .ref a_this_asked, .int c_this_gone, .int c_this_met]))]) K hG [5, 6, 1, 2, 3, 4] [0] 7 rfl (g_runV (As := [.ref a_this_front, .int x1]) (rest := []) K hG hl [5, 6, 1, 2, 3, 4] rfl rfl 1 rfl rfl (k_X2_pick l dC dI cI cJ cZ cG H.size a_this_front a_this_front_scores a_this_front_points a_this_front_counts a_this_front_ideals a_this_front_scales a_this_cover a_this_cover_picks a_this_cover_reach a_this_cover_covered c_this_front_scores c_this_front_size c_this_cover_covered c_this_cover_picks c_this_cover_reach c_this_cover_scores c_this_cover_size x1 _ hw) (cwV 2 K.2.2.2.2.1 gX6_cover_X2_pick rfl rfl rfl (by decide +kernel) ⟨by decide, by decide⟩) rfl rfl (Nat.le_of_ble_eq_true rfl) ⟨Nat.zero_le _, Nat.zero_le _⟩ dX6_cover_40) (fun _ => rfl) (fun _ => rfl) rfl (fun _ => rfl) (fun _ => rfl) (by decide) (by decide) (by decide) (fun r_40 u H locs hw hG => ?_)
        obtain ⟨c_this_cover_covered_40, c_this_cover_picks_40, c_this_cover_reach_40, c_this_cover_scores_40, c_this_cover_size_40⟩ := u
        have hG : HW (dC, dI) A s.heap [(a_this, .inr (5, [.ref a_this_task, .ref a_this_front, .ref a_this_cover, .ref a_this_behind, .ref a_this_climber, .ref a_this_numbers, .ref a_this_asked, .int c_this_gone, .int c_this_met])), (a_this_cover, .inr (2, [.ref a_this_cover_picks, .ref a_this_cover_reach, .ref a_this_cover_covered, .int c_this_cover_scores_40, .int c_this_cover_size_40])), (a_this_cover_covered, .inl (cZ, 100, .inl c_this_cover_covered_40)), (a_this_cover_picks, .inl (cI, 100, .inl c_this_cover_picks_40)), (a_this_cover_reach, .inl (cI, 100, .inl c_this_cover_reach_40)), (a_this_front, .inr (3, [.ref a_this_front_scores, .ref a_this_front_points, .ref a_this_front_counts, .int c_this_front_size, .ref a_this_front_ideals, .ref a_this_front_scales])), (a_this_front_scores, .inl (cJ, 2000, .inr (.inl c_this_front_scores)))] H locs := hG
        exact hret r_40 (c_this_cover_covered_40, c_this_cover_picks_40, c_this_cover_reach_40, c_this_cover_scores_40, c_this_cover_size_40) H locs _ ls dX6_cover_43 rfl hw hG
      · have hw := hw.2 q_23
        refine lv_ldc (v := -1000002) K.1 K.2.1 K.2.2.2.1 (K.2.2.2.2.1 (.constant RX6 104 (-1000002)) (by decide +kernel)) dX6_cover_26 ?_
        refine lv_goto (tgt := 43) K.1 K.2.1 dX6_cover_28 (by decide) ?_
        exact hret (-1000002 : Int32) (c_this_cover_covered, c_this_cover_picks, c_this_cover_reach, c_this_cover_scores, c_this_cover_size) H locs _ ls dX6_cover_43 rfl hw hG
    · have hw := hw.2 q_8
      refine lv_ldc (v := -1000001) K.1 K.2.1 K.2.2.2.1 (K.2.2.2.2.1 (.constant RX6 55 (-1000001)) (by decide +kernel)) dX6_cover_11 ?_
      exact hret (-1000001 : Int32) (c_this_cover_covered, c_this_cover_picks, c_this_cover_reach, c_this_cover_scores, c_this_cover_size) H locs _ ls dX6_cover_13 rfl hw hG
abbrev rm_X6_picked : Room := { frames := 1, cells := 0, slots := 0, locals := 21 }
set_option maxHeartbeats 4000000 in
set_option maxRecDepth 100000 in
theorem k_X6_picked (l : Launch) (dC : Nat → ClassId) (dI : Nat → Nat → Nat) (cI cJ cZ cG : ClassId) (sz : Nat) (a_this a_this_task a_this_front a_this_cover a_this_behind a_this_climber a_this_numbers a_this_asked a_this_cover_picks a_this_cover_reach a_this_cover_covered : Nat) (c_this_cover_picks : Nat → Int32) (c_this_cover_scores : Int32) (c_this_cover_size : Int32) (c_this_gone : Int32) (c_this_met : Int32) (x1 : Int32) (post : Int32 → Prop) (hw : wp_X6_picked c_this_cover_picks c_this_cover_size x1 post) : MetI l yX6_picked wsX6_picked rm_X6_picked (dC, dI) cI cJ cZ cG [.ref a_this, .int x1] sz [(a_this, .inr (5, [.ref a_this_task, .ref a_this_front, .ref a_this_cover, .ref a_this_behind, .ref a_this_climber, .ref a_this_numbers, .ref a_this_asked, .int c_this_gone, .int c_this_met])), (a_this_cover, .inr (2, [.ref a_this_cover_picks, .ref a_this_cover_reach, .ref a_this_cover_covered, .int c_this_cover_scores, .int c_this_cover_size])), (a_this_cover_picks, .inl (cI, 100, .inl c_this_cover_picks))] (fun (r : Int32) (u : Unit) => post r) (fun u => [(a_this, .inr (5, [.ref a_this_task, .ref a_this_front, .ref a_this_cover, .ref a_this_behind, .ref a_this_climber, .ref a_this_numbers, .ref a_this_asked, .int c_this_gone, .int c_this_met])), (a_this_cover, .inr (2, [.ref a_this_cover_picks, .ref a_this_cover_reach, .ref a_this_cover_covered, .int c_this_cover_scores, .int c_this_cover_size])), (a_this_cover_picks, .inl (cI, 100, .inl c_this_cover_picks))]) := by
  refine met_i (ty := .int) (Or.inl rfl) (cc := cX6_picked) (maxL := 2) (by decide) rfl (Nat.le_of_ble_eq_true rfl) ?_
  intro p e s m args below meth c A Q H locs ls K hG hl hret
  have hl : lv_has ls 2 [(0, .ref a_this), (1, .int x1)] := hl
  have hin_RX2 : ∀ w ∈ u_ws RX2 TX2 5, w ∈ wsX6_picked := by decide +kernel
  have hin_RX6 : ∀ w ∈ u_ws RX6 TX6 9, w ∈ wsX6_picked := by decide +kernel
  unfold wp_X6_picked at hw
  refine lv_iload_n K.1 K.2.1 dX6_picked_0 rfl (lv_at hl 1 rfl) ?_
  refine lv_aload_n K.1 K.2.1 dX6_picked_1 rfl (lv_at hl 0 rfl) ?_
  refine g_get (v := .ref a_this_cover) K hG hin_RX6 0 rfl rfl 2 (by decide) (K.2.2.2.2.1 (.fieldLink RX6 26 "AimFronts" "cover" "LAimFronts$Cover;") (by decide +kernel)) rfl rfl dX6_picked_2 ?_
  refine g_get (v := .int c_this_cover_size) K hG hin_RX2 1 rfl rfl 4 (by decide) (K.2.2.2.2.1 (.fieldLink RX6 167 "AimFronts$Cover" "size" "I") (by decide +kernel)) rfl rfl dX6_picked_5 ?_
  refine g_ri K hG [] rfl (g_runS (As := [.int x1, .int c_this_cover_size]) (rest := []) K hG hl [] rfl rfl (k_X6_among l dC dI cI cJ cZ cG H.size x1 c_this_cover_size _ hw) (va_cwS 2 K.2.2.2.2.1 gX6_picked_X6_among rfl rfl rfl (by decide +kernel) ⟨by decide, by decide⟩) rfl rfl (Nat.le_of_ble_eq_true rfl) ⟨Nat.zero_le _, Nat.zero_le _⟩ dX6_picked_8) (fun r_8 H locs hw hG => ?_)
  refine lv_if_eq (tgt := 26) K.1 K.2.1 dX6_picked_11 (by decide) (fun q_11 => ?_) (fun q_11 => ?_)
  · have hw := hw.1 q_11
    refine lv_ldc (v := -1000001) K.1 K.2.1 K.2.2.2.1 (K.2.2.2.2.1 (.constant RX6 55 (-1000001)) (by decide +kernel)) dX6_picked_26 ?_
    exact hret (-1000001 : Int32) () H locs _ ls dX6_picked_28 rfl hw hG
  · have hw := hw.2 q_11
    refine lv_aload_n K.1 K.2.1 dX6_picked_14 rfl (lv_at hl 0 rfl) ?_
    refine g_get (v := .ref a_this_cover) K hG hin_RX6 0 rfl rfl 2 (by decide) (K.2.2.2.2.1 (.fieldLink RX6 26 "AimFronts" "cover" "LAimFronts$Cover;") (by decide +kernel)) rfl rfl dX6_picked_15 ?_
    refine g_get (v := .ref a_this_cover_picks) K hG hin_RX2 1 rfl rfl 0 (by decide) (K.2.2.2.2.1 (.fieldLink RX6 168 "AimFronts$Cover" "picks" "[I") (by decide +kernel)) rfl rfl dX6_picked_18 ?_
    refine lv_iload_n K.1 K.2.1 dX6_picked_21 rfl (lv_at hl 1 rfl) ?_
    obtain ⟨h_22, hw⟩ := hw
    refine g_iald K hG 2 rfl h_22 dX6_picked_22 ?_
    refine lv_goto (tgt := 28) K.1 K.2.1 dX6_picked_23 (by decide) ?_
    exact hret (c_this_cover_picks (x1).toNatClampNeg) () H locs _ ls dX6_picked_28 rfl hw hG
abbrev rm_X0_fits : Room := { frames := 0, cells := 0, slots := 0, locals := 0 }
set_option maxHeartbeats 4000000 in
set_option maxRecDepth 100000 in
theorem k_X0_fits (l : Launch) (dC : Nat → ClassId) (dI : Nat → Nat → Nat) (cI cJ cZ cG : ClassId) (sz : Nat) (a_p1 a_p1_scores a_p1_points a_p1_counts a_p1_ideals a_p1_scales a_this : Nat) (c_p1_size : Int32) (post : Int32 → Prop) (hw : wp_X0_fits c_p1_size post) : MetI l yX0_fits wsX0_fits rm_X0_fits (dC, dI) cI cJ cZ cG [.ref a_this, .ref a_p1] sz [(a_p1, .inr (3, [.ref a_p1_scores, .ref a_p1_points, .ref a_p1_counts, .int c_p1_size, .ref a_p1_ideals, .ref a_p1_scales]))] (fun (r : Int32) (u : Unit) => post r) (fun u => [(a_p1, .inr (3, [.ref a_p1_scores, .ref a_p1_points, .ref a_p1_counts, .int c_p1_size, .ref a_p1_ideals, .ref a_p1_scales]))]) := by
  refine met_i (ty := .boolean) (Or.inr rfl) (cc := cX0_fits) (maxL := 2) (by decide) rfl (Nat.le_of_ble_eq_true rfl) ?_
  intro p e s m args below meth c A Q H locs ls K hG hl hret
  have hl : lv_has ls 2 [(0, .ref a_this), (1, .ref a_p1)] := hl
  have hin_RX3 : ∀ w ∈ u_ws RX3 TX3 6, w ∈ wsX0_fits := by decide +kernel
  unfold wp_X0_fits at hw
  refine lv_aload_n K.1 K.2.1 dX0_fits_0 rfl (lv_at hl 1 rfl) ?_
  refine g_get (v := .int c_p1_size) K hG hin_RX3 0 rfl rfl 3 (by decide) (K.2.2.2.2.1 (.fieldLink RX0 31 "AimFronts$Front" "size" "I") (by decide +kernel)) rfl rfl dX0_fits_1 ?_
  refine lv_if_le (tgt := 20) K.1 K.2.1 dX0_fits_4 (by decide) (fun q_4 => ?_) (fun q_4 => ?_)
  · have hw := hw.1 q_4
    refine lv_iconst (v := 0) K.1 K.2.1 dX0_fits_20 (by decide) ?_
    exact hret (0 : Int32) () H locs _ ls dX0_fits_21 rfl hw hG
  · have hw := hw.2 q_4
    refine lv_aload_n K.1 K.2.1 dX0_fits_7 rfl (lv_at hl 1 rfl) ?_
    refine g_get (v := .int c_p1_size) K hG hin_RX3 0 rfl rfl 3 (by decide) (K.2.2.2.2.1 (.fieldLink RX0 31 "AimFronts$Front" "size" "I") (by decide +kernel)) rfl rfl dX0_fits_8 ?_
    refine lv_bipush (v := 12) K.1 K.2.1 dX0_fits_11 (by decide) ?_
    refine lv_icmp_gt (tgt := 20) K.1 K.2.1 dX0_fits_13 (by decide) (fun q_13 => ?_) (fun q_13 => ?_)
    · have hw := hw.1 q_13
      refine lv_iconst (v := 0) K.1 K.2.1 dX0_fits_20 (by decide) ?_
      exact hret (0 : Int32) () H locs _ ls dX0_fits_21 rfl hw hG
    · have hw := hw.2 q_13
      refine lv_iconst (v := 1) K.1 K.2.1 dX0_fits_16 (by decide) ?_
      refine lv_goto (tgt := 21) K.1 K.2.1 dX0_fits_17 (by decide) ?_
      exact hret (1 : Int32) () H locs _ ls dX0_fits_21 rfl hw hG
abbrev rm_X0_putLevel : Room := { frames := 1, cells := 0, slots := 0, locals := 40 }
set_option maxHeartbeats 4000000 in
set_option maxRecDepth 100000 in
theorem k_X0_putLevel (l : Launch) (dC : Nat → ClassId) (dI : Nat → Nat → Nat) (cI cJ cZ cG : ClassId) (sz : Nat) (a_p1 a_this : Nat) (c_p1 : Nat → Int32) (x2 : Int32) (x3 : Int32) (post : Int32 → (Nat → Int32) → Prop) (hw : wp_X0_putLevel c_p1 x2 x3 post) : MetI l yX0_putLevel wsX0_putLevel rm_X0_putLevel (dC, dI) cI cJ cZ cG [.ref a_this, .ref a_p1, .int x2, .int x3] sz [(a_p1, .inl (cI, 13, .inl c_p1))] (fun (r : Int32) (u : (Nat → Int32)) => post r u) (fun u => [(a_p1, .inl (cI, 13, .inl u))]) := by
  refine met_i (ty := .int) (Or.inl rfl) (cc := cX0_putLevel) (maxL := 5) (by decide) rfl (Nat.le_of_ble_eq_true rfl) ?_
  intro p e s m args below meth c A Q H locs ls K hG hl hret
  have hl : lv_has ls 5 [(0, .ref a_this), (1, .ref a_p1), (2, .int x2), (3, .int x3)] := hl
  unfold wp_X0_putLevel at hw
  refine lv_iconst (v := 0) K.1 K.2.1 dX0_putLevel_0 (by decide) ?_
  refine lv_istore (lv' := [(4, .int (0 : Int32)), (0, .ref a_this), (1, .ref a_p1), (2, .int x2), (3, .int x3)]) K.1 K.2.1 dX0_putLevel_1 hl (by decide) rfl (fun ls hl => ?_)
  obtain ⟨kx_3, hkx_3, n_3, hw⟩ := Lx1_1_abs hw
  have hX_3 : ∀ (v4_3e : Int32) (H : Heap) (locs : List Loc) (ls : Array Slot), kx_3 v4_3e → HW (dC, dI) A s.heap [(a_p1, .inl (cI, 13, .inl c_p1))] H locs → lv_has ls 5 [(1, .ref a_p1), (2, .int x2), (3, .int x3), (4, .int v4_3e)] → W p l e rm_X0_putLevel s m args below meth c H locs 0 0 Q (F0 m 23 ls []) := by
    intro v4_3e H locs ls hw hG hl
    have hw := hkx_3 _ hw
    refine lv_iload K.1 K.2.1 dX0_putLevel_23 (lv_at hl 3 rfl) ?_
    refine lv_iload_n K.1 K.2.1 dX0_putLevel_25 rfl (lv_at hl 1 rfl) ?_
    obtain ⟨k_j37, hk_j37, hw⟩ := jn0_abs hw
    have hJ_j37 : ∀  (H : Heap) (locs : List Loc) (ls : Array Slot), k_j37 → HW (dC, dI) A s.heap [(a_p1, .inl (cI, 13, .inl c_p1))] H locs → lv_has ls 5 [(1, .ref a_p1), (2, .int x2), (3, .int x3), (4, .int v4_3e)] → W p l e rm_X0_putLevel s m args below meth c H locs 0 0 Q (F0 m 37 ls []) := by
      intro H locs ls hw hG hl
      have hw := hk_j37 hw
      refine lv_iload_n K.1 K.2.1 dX0_putLevel_37 rfl (lv_at hl 1 rfl) ?_
      refine lv_bipush (v := 12) K.1 K.2.1 dX0_putLevel_38 (by decide) ?_
      refine lv_icmp_lt (tgt := 45) K.1 K.2.1 dX0_putLevel_40 (by decide) (fun q_40 => ?_) (fun q_40 => ?_)
      · have hw := hw.1 q_40
        refine lv_aload_n K.1 K.2.1 dX0_putLevel_45 rfl (lv_at hl 0 rfl) ?_
        refine lv_iload K.1 K.2.1 dX0_putLevel_46 (lv_at hl 3 rfl) ?_
        refine lv_aload_n K.1 K.2.1 dX0_putLevel_48 rfl (lv_at hl 0 rfl) ?_
        refine lv_iload K.1 K.2.1 dX0_putLevel_49 (lv_at hl 3 rfl) ?_
        refine lv_iconst (v := 1) K.1 K.2.1 dX0_putLevel_51 (by decide) ?_
        refine lv_iadd K.1 K.2.1 dX0_putLevel_52 ?_
        refine lv_iload_n K.1 K.2.1 dX0_putLevel_53 rfl (lv_at hl 1 rfl) ?_
        refine lv_iload K.1 K.2.1 dX0_putLevel_54 (lv_at hl 3 rfl) ?_
        refine lv_isub K.1 K.2.1 dX0_putLevel_56 ?_
        obtain ⟨h1_57, h2_57, h3_57, h4_57, h5_57, hw⟩ := hw
        obtain ⟨c_p1_57, e_57, hw⟩ := jv_abs hw
        refine g_copyi (nL := 0) (ws' := [(a_p1, .inl (cI, 13, .inl c_p1_57))]) K hG hl (K.2.2.2.2.1 (.methodLink RX0 85 arraycopyName) (by decide +kernel)) (K.2.2.2.2.1 (.native arraycopyName) (by decide +kernel)) (K.2.2.2.2.1 (.static arraycopyName) (by decide +kernel)) (K.2.2.2.2.1 (.initialized "java/lang/System") (by decide +kernel)) 0 0 rfl rfl h1_57 h2_57 h3_57 h4_57 h5_57 (Nat.le_of_ble_eq_true rfl) (Nat.le_of_ble_eq_true rfl) (by subst e_57; rfl) dX0_putLevel_57 (fun H locs hG => ?_)
        refine lv_aload_n K.1 K.2.1 dX0_putLevel_60 rfl (lv_at hl 0 rfl) ?_
        refine lv_iload K.1 K.2.1 dX0_putLevel_61 (lv_at hl 3 rfl) ?_
        refine lv_iload_n K.1 K.2.1 dX0_putLevel_63 rfl (lv_at hl 2 rfl) ?_
        obtain ⟨h_64, hw⟩ := hw
        refine g_iast (ws' := [(a_p1, .inl (cI, 13, .inl (upd c_p1_57 (v4_3e).toNatClampNeg x3)))]) K hG 0 rfl h_64 rfl dX0_putLevel_64 (fun H locs hG => ?_)
        refine lv_iload_n K.1 K.2.1 dX0_putLevel_65 rfl (lv_at hl 1 rfl) ?_
        refine lv_iconst (v := 1) K.1 K.2.1 dX0_putLevel_66 (by decide) ?_
        refine lv_iadd K.1 K.2.1 dX0_putLevel_67 ?_
        exact hret (x2 + (1 : Int32)) (upd c_p1_57 (v4_3e).toNatClampNeg x3) H locs _ ls dX0_putLevel_68 rfl hw hG
      · have hw := hw.2 q_40
        refine lv_iload_n K.1 K.2.1 dX0_putLevel_43 rfl (lv_at hl 1 rfl) ?_
        exact hret x2 c_p1 H locs _ ls dX0_putLevel_44 rfl hw hG
    refine lv_icmp_ge (tgt := 37) K.1 K.2.1 dX0_putLevel_26 (by decide) (fun q_26 => ?_) (fun q_26 => ?_)
    · have hw := hw.1 q_26
      exact hJ_j37 H locs ls hw hG (lv_sub hl [0, 1, 2, 3] rfl)
    · have hw := hw.2 q_26
      refine lv_aload_n K.1 K.2.1 dX0_putLevel_29 rfl (lv_at hl 0 rfl) ?_
      refine lv_iload K.1 K.2.1 dX0_putLevel_30 (lv_at hl 3 rfl) ?_
      obtain ⟨h_32, hw⟩ := hw
      refine g_iald K hG 0 rfl h_32 dX0_putLevel_32 ?_
      refine lv_iload_n K.1 K.2.1 dX0_putLevel_33 rfl (lv_at hl 2 rfl) ?_
      refine lv_icmp_eq (tgt := 43) K.1 K.2.1 dX0_putLevel_34 (by decide) (fun q_34 => ?_) (fun q_34 => ?_)
      · have hw := hw.1 q_34
        refine lv_iload_n K.1 K.2.1 dX0_putLevel_43 rfl (lv_at hl 1 rfl) ?_
        exact hret x2 c_p1 H locs _ ls dX0_putLevel_44 rfl hw hG
      · have hw := hw.2 q_34
        exact hJ_j37 H locs ls hw hG (lv_sub hl [0, 1, 2, 3] rfl)
  have hL_3 : ∀ (n : Nat), ∀ (v4_3 : Int32) (H : Heap) (locs : List Loc) (ls : Array Slot), Lp1 (b_X0_putLevel_3 c_p1 x2 x3 kx_3) n v4_3 → HW (dC, dI) A s.heap [(a_p1, .inl (cI, 13, .inl c_p1))] H locs → lv_has ls 5 [(1, .ref a_p1), (2, .int x2), (3, .int x3), (4, .int v4_3)] → W p l e rm_X0_putLevel s m args below meth c H locs 0 0 Q (F0 m 3 ls []) := by
    intro n
    induction n with
    | zero => intro v4_3 H locs ls hw; exact False.elim hw
    | succ n ih_3 =>
      intro v4_3 H locs ls hw hG hl
      obtain ⟨w_3, hw_3, hw⟩ : ∃ w' : Int32 → Prop, (∀ v4_3, w' v4_3 → Lp1 (b_X0_putLevel_3 c_p1 x2 x3 kx_3) n v4_3) ∧ b_X0_putLevel_3 c_p1 x2 x3 kx_3 w' v4_3 := ⟨_, fun _ h => h, hw⟩
      replace ih_3 : ∀ (v4_3 : Int32) (H : Heap) (locs : List Loc) (ls : Array Slot), w_3 v4_3 → HW (dC, dI) A s.heap [(a_p1, .inl (cI, 13, .inl c_p1))] H locs → lv_has ls 5 [(1, .ref a_p1), (2, .int x2), (3, .int x3), (4, .int v4_3)] → W p l e rm_X0_putLevel s m args below meth c H locs 0 0 Q (F0 m 3 ls []) := fun v4_3 H locs ls h => ih_3 v4_3 H locs ls (hw_3 _ h)
      unfold b_X0_putLevel_3 at hw
      refine lv_iload K.1 K.2.1 dX0_putLevel_3 (lv_at hl 3 rfl) ?_
      refine lv_iload_n K.1 K.2.1 dX0_putLevel_5 rfl (lv_at hl 1 rfl) ?_
      refine lv_icmp_ge (tgt := 23) K.1 K.2.1 dX0_putLevel_6 (by decide) (fun q_6 => ?_) (fun q_6 => ?_)
      · have hw := hw.1 q_6
        exact hX_3 v4_3 H locs ls hw hG (lv_sub hl [0, 1, 2, 3] rfl)
      · have hw := hw.2 q_6
        refine lv_aload_n K.1 K.2.1 dX0_putLevel_9 rfl (lv_at hl 0 rfl) ?_
        refine lv_iload K.1 K.2.1 dX0_putLevel_10 (lv_at hl 3 rfl) ?_
        obtain ⟨h_12, hw⟩ := hw
        refine g_iald K hG 0 rfl h_12 dX0_putLevel_12 ?_
        refine lv_iload_n K.1 K.2.1 dX0_putLevel_13 rfl (lv_at hl 2 rfl) ?_
        refine lv_icmp_ge (tgt := 23) K.1 K.2.1 dX0_putLevel_14 (by decide) (fun q_14 => ?_) (fun q_14 => ?_)
        · have hw := hw.1 q_14
          exact hX_3 v4_3 H locs ls hw hG (lv_sub hl [0, 1, 2, 3] rfl)
        · have hw := hw.2 q_14
          refine lv_iinc (v := (v4_3 + (1 : Int32))) (lv' := [(4, .int (v4_3 + (1 : Int32))), (1, .ref a_p1), (2, .int x2), (3, .int x3)]) K.1 K.2.1 dX0_putLevel_17 hl (k := 3) rfl rfl (by decide) rfl (fun ls hl => ?_)
          refine lv_goto (tgt := 3) K.1 K.2.1 dX0_putLevel_20 (by decide) ?_
          exact ih_3 (v4_3 + (1 : Int32)) H locs ls hw hG (lv_sub hl [1, 2, 3, 0] rfl)
  exact hL_3 n_3 (0 : Int32) H locs ls hw hG (lv_sub hl [2, 3, 4, 0] rfl)
abbrev rm_X0_setLevels : Room := { frames := 3, cells := 0, slots := 0, locals := 64 }
set_option maxHeartbeats 4000000 in
set_option maxRecDepth 100000 in
theorem k_X0_setLevels (l : Launch) (dC : Nat → ClassId) (dI : Nat → Nat → Nat) (cI cJ cZ cG : ClassId) (sz : Nat) (a_p1 a_p1_scores a_p1_points a_p1_counts a_p1_ideals a_p1_scales a_this a_this_corners a_this_levels a_this_ends a_this_chosen : Nat) (a_this_levels_r : Nat → Nat) (c_p1_scores : Nat → Int64) (c_p1_size : Int32) (c_this_content : Int64) (c_this_ends : Nat → Int32) (c_this_last : Int32) (c_this_levels : Nat → Nat → Int32) (c_this_ones : Int64) (c_this_size : Int32) (c_this_worked : Int32) (x2 : Int32) (post : (Nat → Int32) → (Nat → Nat → Int32) → Prop) (hw : wp_X0_setLevels c_p1_scores c_p1_size c_this_ends c_this_levels x2 post) : MetV l yX0_setLevels wsX0_setLevels rm_X0_setLevels (dC, dI) cI cJ cZ cG [.ref a_this, .ref a_p1, .int x2] sz [(a_p1, .inr (3, [.ref a_p1_scores, .ref a_p1_points, .ref a_p1_counts, .int c_p1_size, .ref a_p1_ideals, .ref a_p1_scales])), (a_p1_scores, .inl (cJ, 2000, .inr (.inl c_p1_scores))), (a_this, .inr (0, [.ref a_this_corners, .int c_this_size, .long c_this_content, .int c_this_worked, .ref a_this_levels, .ref a_this_ends, .ref a_this_chosen, .int c_this_last, .long c_this_ones])), (a_this_ends, .inl (cI, 4, .inl c_this_ends)), (a_this_levels, .inl (cG, 4, .inr (.inr (.inr (.inr (gro 4 a_this_levels_r)))))), (a_this_levels_r 0, .inl (cI, 13, .inl (c_this_levels 0))), (a_this_levels_r 1, .inl (cI, 13, .inl (c_this_levels 1))), (a_this_levels_r 2, .inl (cI, 13, .inl (c_this_levels 2))), (a_this_levels_r 3, .inl (cI, 13, .inl (c_this_levels 3)))] (fun (u : (Nat → Int32) × (Nat → Nat → Int32)) => post (u.1) (u.2)) (fun u => [(a_p1, .inr (3, [.ref a_p1_scores, .ref a_p1_points, .ref a_p1_counts, .int c_p1_size, .ref a_p1_ideals, .ref a_p1_scales])), (a_p1_scores, .inl (cJ, 2000, .inr (.inl c_p1_scores))), (a_this, .inr (0, [.ref a_this_corners, .int c_this_size, .long c_this_content, .int c_this_worked, .ref a_this_levels, .ref a_this_ends, .ref a_this_chosen, .int c_this_last, .long c_this_ones])), (a_this_ends, .inl (cI, 4, .inl (u.1))), (a_this_levels, .inl (cG, 4, .inr (.inr (.inr (.inr (gro 4 a_this_levels_r)))))), (a_this_levels_r 0, .inl (cI, 13, .inl ((u.2) 0))), (a_this_levels_r 1, .inl (cI, 13, .inl ((u.2) 1))), (a_this_levels_r 2, .inl (cI, 13, .inl ((u.2) 2))), (a_this_levels_r 3, .inl (cI, 13, .inl ((u.2) 3)))]) := by
  refine met_v (cc := cX0_setLevels) (maxL := 5) (by decide) rfl (Nat.le_of_ble_eq_true rfl) ?_
  intro p e s m args below meth c A Q H locs ls K hG hl hret
  have hl : lv_has ls 5 [(0, .ref a_this), (1, .ref a_p1), (2, .int x2)] := hl
  have hin_RX0 : ∀ w ∈ u_ws RX0 TX0 9, w ∈ wsX0_setLevels := by decide +kernel
  have hin_RX3 : ∀ w ∈ u_ws RX3 TX3 6, w ∈ wsX0_setLevels := by decide +kernel
  unfold wp_X0_setLevels at hw
  refine lv_iconst (v := 0) K.1 K.2.1 dX0_setLevels_0 (by decide) ?_
  refine lv_istore_n (lv' := [(3, .int (0 : Int32)), (0, .ref a_this), (1, .ref a_p1), (2, .int x2)]) K.1 K.2.1 dX0_setLevels_1 rfl hl (by decide) rfl (fun ls hl => ?_)
  refine lv_iconst (v := 0) K.1 K.2.1 dX0_setLevels_2 (by decide) ?_
  refine lv_istore (lv' := [(4, .int (0 : Int32)), (3, .int (0 : Int32)), (0, .ref a_this), (1, .ref a_p1), (2, .int x2)]) K.1 K.2.1 dX0_setLevels_3 hl (by decide) rfl (fun ls hl => ?_)
  obtain ⟨kx_5, hkx_5, n_5, hw⟩ := Lx2_3_abs hw
  have hX_5 : ∀ (v3_5e : Int32) (c_this_levels_5e : Nat → Nat → Int32) (H : Heap) (locs : List Loc) (ls : Array Slot), kx_5 v3_5e c_this_levels_5e → HW (dC, dI) A s.heap [(a_p1, .inr (3, [.ref a_p1_scores, .ref a_p1_points, .ref a_p1_counts, .int c_p1_size, .ref a_p1_ideals, .ref a_p1_scales])), (a_p1_scores, .inl (cJ, 2000, .inr (.inl c_p1_scores))), (a_this, .inr (0, [.ref a_this_corners, .int c_this_size, .long c_this_content, .int c_this_worked, .ref a_this_levels, .ref a_this_ends, .ref a_this_chosen, .int c_this_last, .long c_this_ones])), (a_this_ends, .inl (cI, 4, .inl c_this_ends)), (a_this_levels, .inl (cG, 4, .inr (.inr (.inr (.inr (gro 4 a_this_levels_r)))))), (a_this_levels_r 0, .inl (cI, 13, .inl (c_this_levels_5e 0))), (a_this_levels_r 1, .inl (cI, 13, .inl (c_this_levels_5e 1))), (a_this_levels_r 2, .inl (cI, 13, .inl (c_this_levels_5e 2))), (a_this_levels_r 3, .inl (cI, 13, .inl (c_this_levels_5e 3)))] H locs → lv_has ls 5 [(0, .ref a_this), (2, .int x2), (3, .int v3_5e)] → W p l e rm_X0_setLevels s m args below meth c H locs 0 0 Q (F0 m 39 ls []) := by
    intro v3_5e c_this_levels_5e H locs ls hw hG hl
    have hw := hkx_5 _ _ hw
    refine lv_iload_n K.1 K.2.1 dX0_setLevels_39 rfl (lv_at hl 2 rfl) ?_
    refine lv_if_le (tgt := 76) K.1 K.2.1 dX0_setLevels_40 (by decide) (fun q_40 => ?_) (fun q_40 => ?_)
    · have hw := hw.1 q_40
      exact hret (c_this_ends, c_this_levels_5e) H locs _ ls dX0_setLevels_76 hw hG
    · have hw := hw.2 q_40
      refine lv_iload_n K.1 K.2.1 dX0_setLevels_43 rfl (lv_at hl 2 rfl) ?_
      refine lv_bipush (v := 13) K.1 K.2.1 dX0_setLevels_44 (by decide) ?_
      refine lv_icmp_ge (tgt := 76) K.1 K.2.1 dX0_setLevels_46 (by decide) (fun q_46 => ?_) (fun q_46 => ?_)
      · have hw := hw.1 q_46
        exact hret (c_this_ends, c_this_levels_5e) H locs _ ls dX0_setLevels_76 hw hG
      · have hw := hw.2 q_46
        refine lv_aload_n K.1 K.2.1 dX0_setLevels_49 rfl (lv_at hl 0 rfl) ?_
        refine g_get (v := .ref a_this_levels) K hG hin_RX0 2 rfl rfl 4 (by decide) (K.2.2.2.2.1 (.fieldLink RX0 17 "AimFronts$Behind" "levels" "[[I") (by decide +kernel)) rfl rfl dX0_setLevels_50 ?_
        refine lv_iload_n K.1 K.2.1 dX0_setLevels_53 rfl (lv_at hl 1 rfl) ?_
        obtain ⟨h_54, hw⟩ := hw
        refine g_aald K hG 4 rfl h_54 dX0_setLevels_54 ?_
        refine lv_iload_n K.1 K.2.1 dX0_setLevels_55 rfl (lv_at hl 2 rfl) ?_
        refine lv_aload_n K.1 K.2.1 dX0_setLevels_56 rfl (lv_at hl 0 rfl) ?_
        refine g_get (v := .ref a_this_levels) K hG hin_RX0 2 rfl rfl 4 (by decide) (K.2.2.2.2.1 (.fieldLink RX0 17 "AimFronts$Behind" "levels" "[[I") (by decide +kernel)) rfl rfl dX0_setLevels_57 ?_
        refine lv_iload_n K.1 K.2.1 dX0_setLevels_60 rfl (lv_at hl 1 rfl) ?_
        obtain ⟨h_61, hw⟩ := hw
        refine g_aald K hG 4 rfl h_61 dX0_setLevels_61 ?_
        refine lv_iload_n K.1 K.2.1 dX0_setLevels_62 rfl (lv_at hl 2 rfl) ?_
        refine lv_iconst (v := 1) K.1 K.2.1 dX0_setLevels_63 (by decide) ?_
        refine lv_isub K.1 K.2.1 dX0_setLevels_64 ?_
        obtain ⟨h_65, hw⟩ := hw
        refine g_iald K hG (5 + ((x2).toNatClampNeg)) (co_4 (P := fun j => ([(a_p1, .inr (3, [.ref a_p1_scores, .ref a_p1_points, .ref a_p1_counts, .int c_p1_size, .ref a_p1_ideals, .ref a_p1_scales])), (a_p1_scores, .inl (cJ, 2000, .inr (.inl c_p1_scores))), (a_this, .inr (0, [.ref a_this_corners, .int c_this_size, .long c_this_content, .int c_this_worked, .ref a_this_levels, .ref a_this_ends, .ref a_this_chosen, .int c_this_last, .long c_this_ones])), (a_this_ends, .inl (cI, 4, .inl c_this_ends)), (a_this_levels, .inl (cG, 4, .inr (.inr (.inr (.inr (gro 4 a_this_levels_r)))))), (a_this_levels_r 0, .inl (cI, 13, .inl (c_this_levels_5e 0))), (a_this_levels_r 1, .inl (cI, 13, .inl (c_this_levels_5e 1))), (a_this_levels_r 2, .inl (cI, 13, .inl (c_this_levels_5e 2))), (a_this_levels_r 3, .inl (cI, 13, .inl (c_this_levels_5e 3)))] : va_W)[5 + j]? = some (a_this_levels_r j, .inl (cI, 13, .inl (c_this_levels_5e j)))) rfl rfl rfl rfl (vp_in_lt h_61)) h_65 dX0_setLevels_65 ?_
        refine lv_iconst (v := 1) K.1 K.2.1 dX0_setLevels_66 (by decide) ?_
        refine lv_iadd K.1 K.2.1 dX0_setLevels_67 ?_
        obtain ⟨h_68, hw⟩ := hw
        refine g_iast K hG (5 + ((x2).toNatClampNeg)) (co_4 (P := fun j => ([(a_p1, .inr (3, [.ref a_p1_scores, .ref a_p1_points, .ref a_p1_counts, .int c_p1_size, .ref a_p1_ideals, .ref a_p1_scales])), (a_p1_scores, .inl (cJ, 2000, .inr (.inl c_p1_scores))), (a_this, .inr (0, [.ref a_this_corners, .int c_this_size, .long c_this_content, .int c_this_worked, .ref a_this_levels, .ref a_this_ends, .ref a_this_chosen, .int c_this_last, .long c_this_ones])), (a_this_ends, .inl (cI, 4, .inl c_this_ends)), (a_this_levels, .inl (cG, 4, .inr (.inr (.inr (.inr (gro 4 a_this_levels_r)))))), (a_this_levels_r 0, .inl (cI, 13, .inl (c_this_levels_5e 0))), (a_this_levels_r 1, .inl (cI, 13, .inl (c_this_levels_5e 1))), (a_this_levels_r 2, .inl (cI, 13, .inl (c_this_levels_5e 2))), (a_this_levels_r 3, .inl (cI, 13, .inl (c_this_levels_5e 3)))] : va_W)[5 + j]? = some (a_this_levels_r j, .inl (cI, 13, .inl (c_this_levels_5e j)))) rfl rfl rfl rfl (vp_in_lt h_61)) h_68 (co_4 (P := fun j => ([(a_p1, .inr (3, [.ref a_p1_scores, .ref a_p1_points, .ref a_p1_counts, .int c_p1_size, .ref a_p1_ideals, .ref a_p1_scales])), (a_p1_scores, .inl (cJ, 2000, .inr (.inl c_p1_scores))), (a_this, .inr (0, [.ref a_this_corners, .int c_this_size, .long c_this_content, .int c_this_worked, .ref a_this_levels, .ref a_this_ends, .ref a_this_chosen, .int c_this_last, .long c_this_ones])), (a_this_ends, .inl (cI, 4, .inl c_this_ends)), (a_this_levels, .inl (cG, 4, .inr (.inr (.inr (.inr (gro 4 a_this_levels_r)))))), (a_this_levels_r 0, .inl (cI, 13, .inl (c_this_levels_5e 0))), (a_this_levels_r 1, .inl (cI, 13, .inl (c_this_levels_5e 1))), (a_this_levels_r 2, .inl (cI, 13, .inl (c_this_levels_5e 2))), (a_this_levels_r 3, .inl (cI, 13, .inl (c_this_levels_5e 3)))] : va_W).set (5 + j) (a_this_levels_r j, .inl (cI, 13, .inl (upd (c_this_levels_5e j) (v3_5e).toNatClampNeg ((c_this_levels_5e ((x2).toNatClampNeg) ((v3_5e - (1 : Int32))).toNatClampNeg) + (1 : Int32))))) = [(a_p1, .inr (3, [.ref a_p1_scores, .ref a_p1_points, .ref a_p1_counts, .int c_p1_size, .ref a_p1_ideals, .ref a_p1_scales])), (a_p1_scores, .inl (cJ, 2000, .inr (.inl c_p1_scores))), (a_this, .inr (0, [.ref a_this_corners, .int c_this_size, .long c_this_content, .int c_this_worked, .ref a_this_levels, .ref a_this_ends, .ref a_this_chosen, .int c_this_last, .long c_this_ones])), (a_this_ends, .inl (cI, 4, .inl c_this_ends)), (a_this_levels, .inl (cG, 4, .inr (.inr (.inr (.inr (gro 4 a_this_levels_r)))))), (a_this_levels_r 0, .inl (cI, 13, .inl ((updG c_this_levels_5e j (upd (c_this_levels_5e j) (v3_5e).toNatClampNeg ((c_this_levels_5e ((x2).toNatClampNeg) ((v3_5e - (1 : Int32))).toNatClampNeg) + (1 : Int32)))) 0))), (a_this_levels_r 1, .inl (cI, 13, .inl ((updG c_this_levels_5e j (upd (c_this_levels_5e j) (v3_5e).toNatClampNeg ((c_this_levels_5e ((x2).toNatClampNeg) ((v3_5e - (1 : Int32))).toNatClampNeg) + (1 : Int32)))) 1))), (a_this_levels_r 2, .inl (cI, 13, .inl ((updG c_this_levels_5e j (upd (c_this_levels_5e j) (v3_5e).toNatClampNeg ((c_this_levels_5e ((x2).toNatClampNeg) ((v3_5e - (1 : Int32))).toNatClampNeg) + (1 : Int32)))) 2))), (a_this_levels_r 3, .inl (cI, 13, .inl ((updG c_this_levels_5e j (upd (c_this_levels_5e j) (v3_5e).toNatClampNeg ((c_this_levels_5e ((x2).toNatClampNeg) ((v3_5e - (1 : Int32))).toNatClampNeg) + (1 : Int32)))) 3)))]) rfl rfl rfl rfl (vp_in_lt h_61)) dX0_setLevels_68 (fun H locs hG => ?_)
        refine lv_aload_n K.1 K.2.1 dX0_setLevels_69 rfl (lv_at hl 0 rfl) ?_
        refine g_get (v := .ref a_this_ends) K hG hin_RX0 2 rfl rfl 5 (by decide) (K.2.2.2.2.1 (.fieldLink RX0 20 "AimFronts$Behind" "ends" "[I") (by decide +kernel)) rfl rfl dX0_setLevels_70 ?_
        refine lv_iload_n K.1 K.2.1 dX0_setLevels_73 rfl (lv_at hl 1 rfl) ?_
        refine lv_iload_n K.1 K.2.1 dX0_setLevels_74 rfl (lv_at hl 2 rfl) ?_
        obtain ⟨h_75, hw⟩ := hw
        refine g_iast (ws' := [(a_p1, .inr (3, [.ref a_p1_scores, .ref a_p1_points, .ref a_p1_counts, .int c_p1_size, .ref a_p1_ideals, .ref a_p1_scales])), (a_p1_scores, .inl (cJ, 2000, .inr (.inl c_p1_scores))), (a_this, .inr (0, [.ref a_this_corners, .int c_this_size, .long c_this_content, .int c_this_worked, .ref a_this_levels, .ref a_this_ends, .ref a_this_chosen, .int c_this_last, .long c_this_ones])), (a_this_ends, .inl (cI, 4, .inl (upd c_this_ends (x2).toNatClampNeg v3_5e))), (a_this_levels, .inl (cG, 4, .inr (.inr (.inr (.inr (gro 4 a_this_levels_r)))))), (a_this_levels_r 0, .inl (cI, 13, .inl ((updG c_this_levels_5e ((x2).toNatClampNeg) (upd (c_this_levels_5e ((x2).toNatClampNeg)) (v3_5e).toNatClampNeg ((c_this_levels_5e ((x2).toNatClampNeg) ((v3_5e - (1 : Int32))).toNatClampNeg) + (1 : Int32)))) 0))), (a_this_levels_r 1, .inl (cI, 13, .inl ((updG c_this_levels_5e ((x2).toNatClampNeg) (upd (c_this_levels_5e ((x2).toNatClampNeg)) (v3_5e).toNatClampNeg ((c_this_levels_5e ((x2).toNatClampNeg) ((v3_5e - (1 : Int32))).toNatClampNeg) + (1 : Int32)))) 1))), (a_this_levels_r 2, .inl (cI, 13, .inl ((updG c_this_levels_5e ((x2).toNatClampNeg) (upd (c_this_levels_5e ((x2).toNatClampNeg)) (v3_5e).toNatClampNeg ((c_this_levels_5e ((x2).toNatClampNeg) ((v3_5e - (1 : Int32))).toNatClampNeg) + (1 : Int32)))) 2))), (a_this_levels_r 3, .inl (cI, 13, .inl ((updG c_this_levels_5e ((x2).toNatClampNeg) (upd (c_this_levels_5e ((x2).toNatClampNeg)) (v3_5e).toNatClampNeg ((c_this_levels_5e ((x2).toNatClampNeg) ((v3_5e - (1 : Int32))).toNatClampNeg) + (1 : Int32)))) 3)))]) K hG 3 rfl h_75 rfl dX0_setLevels_75 (fun H locs hG => ?_)
        exact hret ((upd c_this_ends (x2).toNatClampNeg v3_5e), (updG c_this_levels_5e ((x2).toNatClampNeg) (upd (c_this_levels_5e ((x2).toNatClampNeg)) (v3_5e).toNatClampNeg ((c_this_levels_5e ((x2).toNatClampNeg) ((v3_5e - (1 : Int32))).toNatClampNeg) + (1 : Int32))))) H locs _ ls dX0_setLevels_76 hw hG
  have hL_5 : ∀ (n : Nat), ∀ (v3_5 : Int32) (v4_5 : Int32) (c_this_levels_5 : Nat → Nat → Int32) (H : Heap) (locs : List Loc) (ls : Array Slot), Lp3 (b_X0_setLevels_5 c_p1_size c_p1_scores x2 kx_5) n v3_5 v4_5 c_this_levels_5 → HW (dC, dI) A s.heap [(a_p1, .inr (3, [.ref a_p1_scores, .ref a_p1_points, .ref a_p1_counts, .int c_p1_size, .ref a_p1_ideals, .ref a_p1_scales])), (a_p1_scores, .inl (cJ, 2000, .inr (.inl c_p1_scores))), (a_this, .inr (0, [.ref a_this_corners, .int c_this_size, .long c_this_content, .int c_this_worked, .ref a_this_levels, .ref a_this_ends, .ref a_this_chosen, .int c_this_last, .long c_this_ones])), (a_this_ends, .inl (cI, 4, .inl c_this_ends)), (a_this_levels, .inl (cG, 4, .inr (.inr (.inr (.inr (gro 4 a_this_levels_r)))))), (a_this_levels_r 0, .inl (cI, 13, .inl (c_this_levels_5 0))), (a_this_levels_r 1, .inl (cI, 13, .inl (c_this_levels_5 1))), (a_this_levels_r 2, .inl (cI, 13, .inl (c_this_levels_5 2))), (a_this_levels_r 3, .inl (cI, 13, .inl (c_this_levels_5 3)))] H locs → lv_has ls 5 [(0, .ref a_this), (1, .ref a_p1), (2, .int x2), (3, .int v3_5), (4, .int v4_5)] → W p l e rm_X0_setLevels s m args below meth c H locs 0 0 Q (F0 m 5 ls []) := by
    intro n
    induction n with
    | zero => intro v3_5 v4_5 c_this_levels_5 H locs ls hw; exact False.elim hw
    | succ n ih_5 =>
      intro v3_5 v4_5 c_this_levels_5 H locs ls hw hG hl
      obtain ⟨w_5, hw_5, hw⟩ : ∃ w' : Int32 → Int32 → (Nat → Nat → Int32) → Prop, (∀ v3_5 v4_5 c_this_levels_5, w' v3_5 v4_5 c_this_levels_5 → Lp3 (b_X0_setLevels_5 c_p1_size c_p1_scores x2 kx_5) n v3_5 v4_5 c_this_levels_5) ∧ b_X0_setLevels_5 c_p1_size c_p1_scores x2 kx_5 w' v3_5 v4_5 c_this_levels_5 := ⟨_, fun _ _ _ h => h, hw⟩
      replace ih_5 : ∀ (v3_5 : Int32) (v4_5 : Int32) (c_this_levels_5 : Nat → Nat → Int32) (H : Heap) (locs : List Loc) (ls : Array Slot), w_5 v3_5 v4_5 c_this_levels_5 → HW (dC, dI) A s.heap [(a_p1, .inr (3, [.ref a_p1_scores, .ref a_p1_points, .ref a_p1_counts, .int c_p1_size, .ref a_p1_ideals, .ref a_p1_scales])), (a_p1_scores, .inl (cJ, 2000, .inr (.inl c_p1_scores))), (a_this, .inr (0, [.ref a_this_corners, .int c_this_size, .long c_this_content, .int c_this_worked, .ref a_this_levels, .ref a_this_ends, .ref a_this_chosen, .int c_this_last, .long c_this_ones])), (a_this_ends, .inl (cI, 4, .inl c_this_ends)), (a_this_levels, .inl (cG, 4, .inr (.inr (.inr (.inr (gro 4 a_this_levels_r)))))), (a_this_levels_r 0, .inl (cI, 13, .inl (c_this_levels_5 0))), (a_this_levels_r 1, .inl (cI, 13, .inl (c_this_levels_5 1))), (a_this_levels_r 2, .inl (cI, 13, .inl (c_this_levels_5 2))), (a_this_levels_r 3, .inl (cI, 13, .inl (c_this_levels_5 3)))] H locs → lv_has ls 5 [(0, .ref a_this), (1, .ref a_p1), (2, .int x2), (3, .int v3_5), (4, .int v4_5)] → W p l e rm_X0_setLevels s m args below meth c H locs 0 0 Q (F0 m 5 ls []) := fun v3_5 v4_5 c_this_levels_5 H locs ls h => ih_5 v3_5 v4_5 c_this_levels_5 H locs ls (hw_5 _ _ _ h)
      unfold b_X0_setLevels_5 at hw
      refine lv_iload K.1 K.2.1 dX0_setLevels_5 (lv_at hl 4 rfl) ?_
      refine lv_aload_n K.1 K.2.1 dX0_setLevels_7 rfl (lv_at hl 1 rfl) ?_
      refine g_get (v := .int c_p1_size) K hG hin_RX3 0 rfl rfl 3 (by decide) (K.2.2.2.2.1 (.fieldLink RX0 31 "AimFronts$Front" "size" "I") (by decide +kernel)) rfl rfl dX0_setLevels_8 ?_
      refine lv_icmp_ge (tgt := 39) K.1 K.2.1 dX0_setLevels_11 (by decide) (fun q_11 => ?_) (fun q_11 => ?_)
      · have hw := hw.1 q_11
        exact hX_5 v3_5 c_this_levels_5 H locs ls hw hG (lv_sub hl [0, 2, 3] rfl)
      · have hw := hw.2 q_11
        refine lv_aload_n K.1 K.2.1 dX0_setLevels_14 rfl (lv_at hl 0 rfl) ?_
        refine lv_aload_n K.1 K.2.1 dX0_setLevels_15 rfl (lv_at hl 0 rfl) ?_
        refine g_get (v := .ref a_this_levels) K hG hin_RX0 2 rfl rfl 4 (by decide) (K.2.2.2.2.1 (.fieldLink RX0 17 "AimFronts$Behind" "levels" "[[I") (by decide +kernel)) rfl rfl dX0_setLevels_16 ?_
        refine lv_iload_n K.1 K.2.1 dX0_setLevels_19 rfl (lv_at hl 2 rfl) ?_
        obtain ⟨h_20, hw⟩ := hw
        refine g_aald K hG 4 rfl h_20 dX0_setLevels_20 ?_
        refine lv_iload_n K.1 K.2.1 dX0_setLevels_21 rfl (lv_at hl 3 rfl) ?_
        refine lv_aload_n K.1 K.2.1 dX0_setLevels_22 rfl (lv_at hl 1 rfl) ?_
        refine lv_iload K.1 K.2.1 dX0_setLevels_23 (lv_at hl 4 rfl) ?_
        refine lv_iload_n K.1 K.2.1 dX0_setLevels_25 rfl (lv_at hl 2 rfl) ?_
        refine g_ri K hG [0, 1] rfl (g_runV (As := [.int v4_5, .int x2]) (rest := [.int v3_5, .ref (a_this_levels_r (x2).toNatClampNeg), .ref a_this]) K hG hl [0, 1] rfl rfl 0 rfl rfl (k_X3_number l dC dI cI cJ cZ cG H.size a_p1 a_p1_scores a_p1_points a_p1_counts a_p1_ideals a_p1_scales c_p1_scores c_p1_size v4_5 x2 _ hw) (cwV 2 K.2.2.2.2.1 gX0_setLevels_X3_number rfl rfl rfl (by decide +kernel) ⟨by decide, by decide⟩) rfl rfl (Nat.le_of_ble_eq_true rfl) ⟨Nat.zero_le _, Nat.zero_le _⟩ dX0_setLevels_26) (fun r_26 H locs hw hG => ?_)
        refine g_ki (w2 := (fun u => [(a_p1, .inr (3, [.ref a_p1_scores, .ref a_p1_points, .ref a_p1_counts, .int c_p1_size, .ref a_p1_ideals, .ref a_p1_scales])), (a_p1_scores, .inl (cJ, 2000, .inr (.inl c_p1_scores))), (a_this, .inr (0, [.ref a_this_corners, .int c_this_size, .long c_this_content, .int c_this_worked, .ref a_this_levels, .ref a_this_ends, .ref a_this_chosen, .int c_this_last, .long c_this_ones])), (a_this_ends, .inl (cI, 4, .inl c_this_ends)), (a_this_levels, .inl (cG, 4, .inr (.inr (.inr (.inr (gro 4 a_this_levels_r)))))), (a_this_levels_r 0, .inl (cI, 13, .inl ((updG c_this_levels_5 ((x2).toNatClampNeg) u) 0))), (a_this_levels_r 1, .inl (cI, 13, .inl ((updG c_this_levels_5 ((x2).toNatClampNeg) u) 1))), (a_this_levels_r 2, .inl (cI, 13, .inl ((updG c_this_levels_5 ((x2).toNatClampNeg) u) 2))), (a_this_levels_r 3, .inl (cI, 13, .inl ((updG c_this_levels_5 ((x2).toNatClampNeg) u) 3)))])) K hG [5 + ((x2).toNatClampNeg)] (co_4 (P := fun j => ([5 + j] : List Nat).map (fun i => ([(a_p1, .inr (3, [.ref a_p1_scores, .ref a_p1_points, .ref a_p1_counts, .int c_p1_size, .ref a_p1_ideals, .ref a_p1_scales])), (a_p1_scores, .inl (cJ, 2000, .inr (.inl c_p1_scores))), (a_this, .inr (0, [.ref a_this_corners, .int c_this_size, .long c_this_content, .int c_this_worked, .ref a_this_levels, .ref a_this_ends, .ref a_this_chosen, .int c_this_last, .long c_this_ones])), (a_this_ends, .inl (cI, 4, .inl c_this_ends)), (a_this_levels, .inl (cG, 4, .inr (.inr (.inr (.inr (gro 4 a_this_levels_r)))))), (a_this_levels_r 0, .inl (cI, 13, .inl (c_this_levels_5 0))), (a_this_levels_r 1, .inl (cI, 13, .inl (c_this_levels_5 1))), (a_this_levels_r 2, .inl (cI, 13, .inl (c_this_levels_5 2))), (a_this_levels_r 3, .inl (cI, 13, .inl (c_this_levels_5 3)))] : va_W)[i]?) = ([((a_this_levels_r j), .inl (cI, 13, .inl (c_this_levels_5 j)))] : va_W).map some) rfl rfl rfl rfl (vp_in_lt h_20)) (g_runV (As := [.ref (a_this_levels_r (x2).toNatClampNeg), .int v3_5, .int r_26]) (rest := []) K hG hl [5 + ((x2).toNatClampNeg)] (co_4 (P := fun j => ([5 + j] : List Nat).map (fun i => ([(a_p1, .inr (3, [.ref a_p1_scores, .ref a_p1_points, .ref a_p1_counts, .int c_p1_size, .ref a_p1_ideals, .ref a_p1_scales])), (a_p1_scores, .inl (cJ, 2000, .inr (.inl c_p1_scores))), (a_this, .inr (0, [.ref a_this_corners, .int c_this_size, .long c_this_content, .int c_this_worked, .ref a_this_levels, .ref a_this_ends, .ref a_this_chosen, .int c_this_last, .long c_this_ones])), (a_this_ends, .inl (cI, 4, .inl c_this_ends)), (a_this_levels, .inl (cG, 4, .inr (.inr (.inr (.inr (gro 4 a_this_levels_r)))))), (a_this_levels_r 0, .inl (cI, 13, .inl (c_this_levels_5 0))), (a_this_levels_r 1, .inl (cI, 13, .inl (c_this_levels_5 1))), (a_this_levels_r 2, .inl (cI, 13, .inl (c_this_levels_5 2))), (a_this_levels_r 3, .inl (cI, 13, .inl (c_this_levels_5 3)))] : va_W)[i]?) = ([((a_this_levels_r j), .inl (cI, 13, .inl (c_this_levels_5 j)))] : va_W).map some) rfl rfl rfl rfl (vp_in_lt h_20)) (co_4 (P := fun j => va_nd [5 + j] = true) rfl rfl rfl rfl (vp_in_lt h_20)) 2 rfl rfl (k_X0_putLevel l dC dI cI cJ cZ cG H.size (a_this_levels_r (x2).toNatClampNeg) a_this (c_this_levels_5 ((x2).toNatClampNeg)) v3_5 r_26 _ hw) (cwV 3 K.2.2.2.2.1 gX0_setLevels_X0_putLevel rfl rfl rfl (by decide +kernel) ⟨by decide, by decide⟩) rfl rfl (Nat.le_of_ble_eq_true rfl) ⟨Nat.zero_le _, Nat.zero_le _⟩ dX0_setLevels_29) (fun _ => rfl) (fun u => co_4 (P := fun j => jset ([(a_p1, .inr (3, [.ref a_p1_scores, .ref a_p1_points, .ref a_p1_counts, .int c_p1_size, .ref a_p1_ideals, .ref a_p1_scales])), (a_p1_scores, .inl (cJ, 2000, .inr (.inl c_p1_scores))), (a_this, .inr (0, [.ref a_this_corners, .int c_this_size, .long c_this_content, .int c_this_worked, .ref a_this_levels, .ref a_this_ends, .ref a_this_chosen, .int c_this_last, .long c_this_ones])), (a_this_ends, .inl (cI, 4, .inl c_this_ends)), (a_this_levels, .inl (cG, 4, .inr (.inr (.inr (.inr (gro 4 a_this_levels_r)))))), (a_this_levels_r 0, .inl (cI, 13, .inl (c_this_levels_5 0))), (a_this_levels_r 1, .inl (cI, 13, .inl (c_this_levels_5 1))), (a_this_levels_r 2, .inl (cI, 13, .inl (c_this_levels_5 2))), (a_this_levels_r 3, .inl (cI, 13, .inl (c_this_levels_5 3)))] : va_W) ([5 + j] : List Nat) ([((a_this_levels_r j), .inl (cI, 13, .inl u))] : va_W) = [(a_p1, .inr (3, [.ref a_p1_scores, .ref a_p1_points, .ref a_p1_counts, .int c_p1_size, .ref a_p1_ideals, .ref a_p1_scales])), (a_p1_scores, .inl (cJ, 2000, .inr (.inl c_p1_scores))), (a_this, .inr (0, [.ref a_this_corners, .int c_this_size, .long c_this_content, .int c_this_worked, .ref a_this_levels, .ref a_this_ends, .ref a_this_chosen, .int c_this_last, .long c_this_ones])), (a_this_ends, .inl (cI, 4, .inl c_this_ends)), (a_this_levels, .inl (cG, 4, .inr (.inr (.inr (.inr (gro 4 a_this_levels_r)))))), (a_this_levels_r 0, .inl (cI, 13, .inl ((updG c_this_levels_5 j u) 0))), (a_this_levels_r 1, .inl (cI, 13, .inl ((updG c_this_levels_5 j u) 1))), (a_this_levels_r 2, .inl (cI, 13, .inl ((updG c_this_levels_5 j u) 2))), (a_this_levels_r 3, .inl (cI, 13, .inl ((updG c_this_levels_5 j u) 3)))]) rfl rfl rfl rfl (vp_in_lt h_20)) (fun r_29 u H locs hw hG => ?_)
        obtain ⟨c_this_levels_29, rfl⟩ : ∃ z, z = u := ⟨_, rfl⟩
        have hG : HW (dC, dI) A s.heap [(a_p1, .inr (3, [.ref a_p1_scores, .ref a_p1_points, .ref a_p1_counts, .int c_p1_size, .ref a_p1_ideals, .ref a_p1_scales])), (a_p1_scores, .inl (cJ, 2000, .inr (.inl c_p1_scores))), (a_this, .inr (0, [.ref a_this_corners, .int c_this_size, .long c_this_content, .int c_this_worked, .ref a_this_levels, .ref a_this_ends, .ref a_this_chosen, .int c_this_last, .long c_this_ones])), (a_this_ends, .inl (cI, 4, .inl c_this_ends)), (a_this_levels, .inl (cG, 4, .inr (.inr (.inr (.inr (gro 4 a_this_levels_r)))))), (a_this_levels_r 0, .inl (cI, 13, .inl ((updG c_this_levels_5 ((x2).toNatClampNeg) c_this_levels_29) 0))), (a_this_levels_r 1, .inl (cI, 13, .inl ((updG c_this_levels_5 ((x2).toNatClampNeg) c_this_levels_29) 1))), (a_this_levels_r 2, .inl (cI, 13, .inl ((updG c_this_levels_5 ((x2).toNatClampNeg) c_this_levels_29) 2))), (a_this_levels_r 3, .inl (cI, 13, .inl ((updG c_this_levels_5 ((x2).toNatClampNeg) c_this_levels_29) 3)))] H locs := hG
        refine lv_istore_n (lv' := [(3, .int r_29), (0, .ref a_this), (1, .ref a_p1), (2, .int x2), (4, .int v4_5)]) K.1 K.2.1 dX0_setLevels_32 rfl hl (by decide) rfl (fun ls hl => ?_)
        refine lv_iinc (v := (v4_5 + (1 : Int32))) (lv' := [(4, .int (v4_5 + (1 : Int32))), (3, .int r_29), (0, .ref a_this), (1, .ref a_p1), (2, .int x2)]) K.1 K.2.1 dX0_setLevels_33 hl (k := 4) rfl rfl (by decide) rfl (fun ls hl => ?_)
        refine lv_goto (tgt := 5) K.1 K.2.1 dX0_setLevels_36 (by decide) ?_
        exact ih_5 r_29 (v4_5 + (1 : Int32)) (updG c_this_levels_5 ((x2).toNatClampNeg) c_this_levels_29) H locs ls hw hG (lv_sub hl [2, 3, 4, 1, 0] rfl)
  exact hL_5 n_5 (0 : Int32) (0 : Int32) c_this_levels H locs ls hw hG (lv_sub hl [2, 3, 4, 1, 0] rfl)

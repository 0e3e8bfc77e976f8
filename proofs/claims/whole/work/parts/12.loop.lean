/-! ===== the law's loop (by program: wip/whole/gen/loopgen.py) ===== -/
theorem head_lt {L j : Nat} (hL : L ≤ 2560) (hj : j ≤ 2560) : (nI L - 5 < nI j) ↔ L < j + 5 := by
  rw [show (5 : Int32) = nI 5 from rfl, Int32.lt_iff_toInt_lt, pk_sub_toInt (by omega) (by omega), nI_toInt (by omega)]
  omega
theorem ix_in {L j k : Nat} (hL : L ≤ 2560) (h : j + k < L) : vp_in (nI j + nI k) L := by
  rw [nI_add]
  exact vp_in_nI h (by omega)
theorem till25 {z : Int} (h1 : ¬ z < 0) (h2 : ¬ 25 < z) : z = 0 ∨ z = 1 ∨ z = 2 ∨ z = 3 ∨ z = 4 ∨ z = 5 ∨ z = 6 ∨ z = 7 ∨ z = 8 ∨ z = 9 ∨ z = 10 ∨ z = 11 ∨ z = 12 ∨ z = 13 ∨ z = 14 ∨ z = 15 ∨ z = 16 ∨ z = 17 ∨ z = 18 ∨ z = 19 ∨ z = 20 ∨ z = 21 ∨ z = 22 ∨ z = 23 ∨ z = 24 ∨ z = 25 := by omega
section LWK3
variable {p : Program} {l : Launch} {e : Env} {s : State} {m : MethodId} {below : List Frame} {meth : Method} {c : Code} {Q : State → Prop} {A : Nat → Prop} {dC : Nat → ClassId} {dI : Nat → Nat → Nat} {cI cJ cZ cG : ClassId} {b L a_x a_m : Nat} {xs : Nat → Int32}
set_option maxHeartbeats 4000000 in
theorem law_turn {H : Heap} {locs : List Loc} {ls : Array Slot} (K : WK p s m c #[.ref b] cL_law 4 RL wsL_law (dC, dI) cI cJ cZ cG A) (hX : va_X b L xs s s.heap) (hbl : b < s.heap.size) (hbA : ¬ A b) {i : Int32} (h0 : vp_in i L) (h1 : vp_in (i + 1) L) (h2 : vp_in (i + 2) L) (h3 : vp_in (i + 3) L) (h4 : vp_in (i + 4) L) (hS : LWs (dC, dI) cI cJ cZ cG A s.heap a_x a_m H locs) (hl : lv_has ls 4 [(0, .ref b), (1, .ref a_x), (2, .ref a_m), (3, .int i)]) (kk : ∀ (H : Heap) (locs : List Loc), LWs (dC, dI) cI cJ cZ cG A s.heap a_x a_m H locs → W p l e room_1 s m #[.ref b] below meth c H locs 600000 7302250 Q (F0 m 881 ls [])) : W p l e room_1 s m #[.ref b] below meth c H locs 600000 7302250 Q (F0 m 26 ls []) := by
  have hZ := LWs_S hS
  refine lv_aload_n K.1 K.2.1 dL_law_26 rfl (lv_at hl 0 rfl) ?_
  refine lv_iload_n K.1 K.2.1 dL_law_27 rfl (lv_at hl 3 rfl) ?_
  refine va_sld K.1 K.2.1 hX hbl hbA hZ h0 dL_law_28 ?_
  refine lv_bipush (v := 31) K.1 K.2.1 dL_law_29 (by decide) ?_
  refine lv_iand K.1 K.2.1 dL_law_31 ?_
  generalize (xs i.toNatClampNeg &&& 31) = z
  by_cases q1 : z.toInt < 0
  · exact lv_tableOut (tgt := 881) K.1 K.2.1 dL_law_32 (Or.inl q1) (by decide) (kk H locs hS)
  by_cases q2 : 25 < z.toInt
  · exact lv_tableOut (tgt := 881) K.1 K.2.1 dL_law_32 (Or.inr q2) (by decide) (kk H locs hS)
  rcases till25 q1 q2 with h | h | h | h | h | h | h | h | h | h | h | h | h | h | h | h | h | h | h | h | h | h | h | h | h | h
  · exact lv_tableIn (off := 120) (tgt := 152) K.1 K.2.1 dL_law_32 q1 q2 (by rw [h]; rfl) (by decide) (lc_0 K hX hbl hbA h1 h2 h3 h4 hS hl kk)
  · exact lv_tableIn (off := 153) (tgt := 185) K.1 K.2.1 dL_law_32 q1 q2 (by rw [h]; rfl) (by decide) (lc_1 K hX hbl hbA h1 h2 h3 h4 hS hl kk)
  · exact lv_tableIn (off := 176) (tgt := 208) K.1 K.2.1 dL_law_32 q1 q2 (by rw [h]; rfl) (by decide) (lc_2 K hX hbl hbA h1 h2 h3 h4 hS hl kk)
  · exact lv_tableIn (off := 219) (tgt := 251) K.1 K.2.1 dL_law_32 q1 q2 (by rw [h]; rfl) (by decide) (lc_3 K hX hbl hbA h1 h2 h3 h4 hS hl kk)
  · exact lv_tableIn (off := 232) (tgt := 264) K.1 K.2.1 dL_law_32 q1 q2 (by rw [h]; rfl) (by decide) (lc_4 K hX hbl hbA h1 h2 h3 h4 hS hl kk)
  · exact lv_tableIn (off := 275) (tgt := 307) K.1 K.2.1 dL_law_32 q1 q2 (by rw [h]; rfl) (by decide) (lc_5 K hX hbl hbA h1 h2 h3 h4 hS hl kk)
  · exact lv_tableIn (off := 318) (tgt := 350) K.1 K.2.1 dL_law_32 q1 q2 (by rw [h]; rfl) (by decide) (lc_6 K hX hbl hbA h1 h2 h3 h4 hS hl kk)
  · exact lv_tableIn (off := 331) (tgt := 363) K.1 K.2.1 dL_law_32 q1 q2 (by rw [h]; rfl) (by decide) (lc_7 K hX hbl hbA h1 h2 h3 h4 hS hl kk)
  · exact lv_tableIn (off := 354) (tgt := 386) K.1 K.2.1 dL_law_32 q1 q2 (by rw [h]; rfl) (by decide) (lc_8 K hX hbl hbA h1 h2 h3 h4 hS hl kk)
  · exact lv_tableIn (off := 367) (tgt := 399) K.1 K.2.1 dL_law_32 q1 q2 (by rw [h]; rfl) (by decide) (lc_9 K hX hbl hbA h1 h2 h3 h4 hS hl kk)
  · exact lv_tableIn (off := 380) (tgt := 412) K.1 K.2.1 dL_law_32 q1 q2 (by rw [h]; rfl) (by decide) (lc_10 K hX hbl hbA h1 h2 h3 h4 hS hl kk)
  · exact lv_tableIn (off := 413) (tgt := 445) K.1 K.2.1 dL_law_32 q1 q2 (by rw [h]; rfl) (by decide) (lc_11 K hX hbl hbA h1 h2 h3 h4 hS hl kk)
  · exact lv_tableIn (off := 446) (tgt := 478) K.1 K.2.1 dL_law_32 q1 q2 (by rw [h]; rfl) (by decide) (lc_12 K hX hbl hbA h1 h2 h3 h4 hS hl kk)
  · exact lv_tableIn (off := 469) (tgt := 501) K.1 K.2.1 dL_law_32 q1 q2 (by rw [h]; rfl) (by decide) (lc_13 K hX hbl hbA h1 h2 h3 h4 hS hl kk)
  · exact lv_tableIn (off := 492) (tgt := 524) K.1 K.2.1 dL_law_32 q1 q2 (by rw [h]; rfl) (by decide) (lc_14 K hX hbl hbA h1 h2 h3 h4 hS hl kk)
  · exact lv_tableIn (off := 515) (tgt := 547) K.1 K.2.1 dL_law_32 q1 q2 (by rw [h]; rfl) (by decide) (lc_15 K hX hbl hbA h1 h2 h3 h4 hS hl kk)
  · exact lv_tableIn (off := 538) (tgt := 570) K.1 K.2.1 dL_law_32 q1 q2 (by rw [h]; rfl) (by decide) (lc_16 K hX hbl hbA h1 h2 h3 h4 hS hl kk)
  · exact lv_tableIn (off := 591) (tgt := 623) K.1 K.2.1 dL_law_32 q1 q2 (by rw [h]; rfl) (by decide) (lc_17 K hX hbl hbA h1 h2 h3 h4 hS hl kk)
  · exact lv_tableIn (off := 644) (tgt := 676) K.1 K.2.1 dL_law_32 q1 q2 (by rw [h]; rfl) (by decide) (lc_18 K hX hbl hbA h1 h2 h3 h4 hS hl kk)
  · exact lv_tableIn (off := 697) (tgt := 729) K.1 K.2.1 dL_law_32 q1 q2 (by rw [h]; rfl) (by decide) (lc_19 K hX hbl hbA h1 h2 h3 h4 hS hl kk)
  · exact lv_tableIn (off := 720) (tgt := 752) K.1 K.2.1 dL_law_32 q1 q2 (by rw [h]; rfl) (by decide) (lc_20 K hX hbl hbA h1 h2 h3 h4 hS hl kk)
  · exact lv_tableIn (off := 743) (tgt := 775) K.1 K.2.1 dL_law_32 q1 q2 (by rw [h]; rfl) (by decide) (lc_21 K hX hbl hbA h1 h2 h3 h4 hS hl kk)
  · exact lv_tableIn (off := 756) (tgt := 788) K.1 K.2.1 dL_law_32 q1 q2 (by rw [h]; rfl) (by decide) (lc_22 K hX hbl hbA h1 h2 h3 h4 hS hl kk)
  · exact lv_tableIn (off := 789) (tgt := 821) K.1 K.2.1 dL_law_32 q1 q2 (by rw [h]; rfl) (by decide) (lc_23 K hX hbl hbA h1 h2 h3 h4 hS hl kk)
  · exact lv_tableIn (off := 803) (tgt := 835) K.1 K.2.1 dL_law_32 q1 q2 (by rw [h]; rfl) (by decide) (lc_24 K hX hbl hbA h1 h2 h3 h4 hS hl kk)
  · exact lv_tableIn (off := 826) (tgt := 858) K.1 K.2.1 dL_law_32 q1 q2 (by rw [h]; rfl) (by decide) (lc_25 K hX hbl hbA h1 h2 h3 h4 hS hl kk)
theorem law_loop (K : WK p s m c #[.ref b] cL_law 4 RL wsL_law (dC, dI) cI cJ cZ cG A) (hX : va_X b L xs s s.heap) (hbl : b < s.heap.size) (hbA : ¬ A b) (hL : L ≤ 2560) (hend : ∀ (H : Heap) (locs : List Loc) (ls : Array Slot), LWs (dC, dI) cI cJ cZ cG A s.heap a_x a_m H locs → W p l e room_1 s m #[.ref b] below meth c H locs 600000 7302250 Q (F0 m 887 ls [])) : ∀ (n j : Nat), L ≤ j + 5 * n → j ≤ 2560 → ∀ (H : Heap) (locs : List Loc) (ls : Array Slot), LWs (dC, dI) cI cJ cZ cG A s.heap a_x a_m H locs → lv_has ls 4 [(0, .ref b), (1, .ref a_x), (2, .ref a_m), (3, .int (nI j))] → W p l e room_1 s m #[.ref b] below meth c H locs 600000 7302250 Q (F0 m 18 ls []) := by
  intro n
  induction n with
  | zero =>
    intro j hn hj H locs ls hS hl
    refine lv_iload_n K.1 K.2.1 dL_law_18 rfl (lv_at hl 3 rfl) ?_
    refine lv_aload_n K.1 K.2.1 dL_law_19 rfl (lv_at hl 0 rfl) ?_
    refine va_slen K.1 K.2.1 hX hbl hbA (LWs_S hS) dL_law_20 ?_
    refine lv_iconst (v := 5) K.1 K.2.1 dL_law_21 (by decide) ?_
    refine lv_isub K.1 K.2.1 dL_law_22 ?_
    exact lv_icmp_gt (tgt := 887) K.1 K.2.1 dL_law_23 (by decide) (fun _ => hend H locs ls hS) (fun h => absurd ((head_lt hL hj).mpr (by omega)) h)
  | succ n ih =>
    intro j hn hj H locs ls hS hl
    refine lv_iload_n K.1 K.2.1 dL_law_18 rfl (lv_at hl 3 rfl) ?_
    refine lv_aload_n K.1 K.2.1 dL_law_19 rfl (lv_at hl 0 rfl) ?_
    refine va_slen K.1 K.2.1 hX hbl hbA (LWs_S hS) dL_law_20 ?_
    refine lv_iconst (v := 5) K.1 K.2.1 dL_law_21 (by decide) ?_
    refine lv_isub K.1 K.2.1 dL_law_22 ?_
    refine lv_icmp_gt (tgt := 887) K.1 K.2.1 dL_law_23 (by decide) (fun _ => hend H locs ls hS) (fun h => ?_)
    have hj5 : j + 5 ≤ L := Nat.le_of_not_lt (fun z => h ((head_lt hL hj).mpr z))
    refine law_turn K hX hbl hbA (vp_in_nI (by omega) (by omega)) (ix_in (k := 1) hL (by omega)) (ix_in (k := 2) hL (by omega)) (ix_in (k := 3) hL (by omega)) (ix_in (k := 4) hL (by omega)) hS hl (fun H locs hS => ?_)
    refine lv_iinc (v := nI (j + 5)) (lv' := [(3, .int (nI (j + 5))), (0, .ref b), (1, .ref a_x), (2, .ref a_m)]) K.1 K.2.1 dL_law_881 hl (k := 3) rfl (nI_add j 5) (by decide) rfl (fun ls hl => ?_)
    refine lv_goto (tgt := 18) K.1 K.2.1 dL_law_884 (by decide) ?_
    exact ih (j + 5) (by omega) (by omega) H locs ls hS (lv_sub hl [1, 2, 3, 0] rfl)
end LWK3

/-! ===== the law from its entry (by program: wip/whole/gen/startgen.py) ===== -/
theorem arr_int {args : Array Value} {s : State} (h : (Cond.arrayClass .int).before args s = true) : ∃ cA, ArrOfT s cA .int ∧ va_RA s cA .int := by
  obtain ⟨cA, kA, comp, h1, h2, h3⟩ := Cond.arrayClass_spec h
  exact ⟨cA, fun n z => ⟨fun k h => (by cases h), kA, h2, comp, h3⟩, h1⟩
theorem arr_long {args : Array Value} {s : State} (h : (Cond.arrayClass .long).before args s = true) : ∃ cA, ArrOfT s cA .long ∧ va_RA s cA .long := by
  obtain ⟨cA, kA, comp, h1, h2, h3⟩ := Cond.arrayClass_spec h
  exact ⟨cA, fun n z => ⟨fun k h => (by cases h), kA, h2, comp, h3⟩, h1⟩
theorem arr_bool {args : Array Value} {s : State} (h : (Cond.arrayClass .boolean).before args s = true) : ∃ cA, ArrOfT s cA .boolean ∧ va_RA s cA .boolean := by
  obtain ⟨cA, kA, comp, h1, h2, h3⟩ := Cond.arrayClass_spec h
  exact ⟨cA, fun n z => ⟨fun k h => (by cases h), kA, h2, comp, h3⟩, h1⟩
theorem arr_grid {args : Array Value} {s : State} (h : (Cond.arrayOver (.array .int)).before args s = true) : ∃ cA, ArrOfT s cA (.array .int) ∧ va_RA s cA (.array .int) := by
  obtain ⟨comp, cA, kA, -, -, h2, h3, h1⟩ := Jvm.Stand.arrayOver_specB h
  exact ⟨cA, fun n z => ⟨fun k h => (by cases h), kA, h2, comp, h3⟩, h1⟩
theorem know_all {args : Array Value} {s : State} (hts : ∀ w ∈ lw_tbl, w.before args s = true) : ∃ (dC : Nat → ClassId) (dI : Nat → Nat → Nat) (cI cJ cZ cG : ClassId), va_K (dC, dI) vwCl (tyw cI cJ cZ cG) s := by
  obtain ⟨d0, e0, k0⟩ := u_known (n := 9) hts wsX00_in (hts (.instantiable RX0 9) (by decide +kernel))
  obtain ⟨d1, e1, k1⟩ := u_known (n := 2) hts wsX10_in (hts (.instantiable RX1 2) (by decide +kernel))
  obtain ⟨d2, e2, k2⟩ := u_known (n := 5) hts wsX20_in (hts (.instantiable RX2 5) (by decide +kernel))
  obtain ⟨d3, e3, k3⟩ := u_known (n := 6) hts wsX30_in (hts (.instantiable RX3 6) (by decide +kernel))
  obtain ⟨d4, e4, k4⟩ := u_known (n := 11) hts wsX50_in (hts (.instantiable RX5 11) (by decide +kernel))
  obtain ⟨d5, e5, k5⟩ := u_known (n := 9) hts wsX60_in (hts (.instantiable RX6 9) (by decide +kernel))
  obtain ⟨d6, e6, k6⟩ := u_known (n := 30) hts wsX70_in (hts (.instantiable RX7 30) (by decide +kernel))
  obtain ⟨cI, i1, i2⟩ := arr_int (hts (.arrayClass .int) (by decide +kernel))
  obtain ⟨cJ, j1, j2⟩ := arr_long (hts (.arrayClass .long) (by decide +kernel))
  obtain ⟨cZ, z1, z2⟩ := arr_bool (hts (.arrayClass .boolean) (by decide +kernel))
  obtain ⟨cG, g1, g2⟩ := arr_grid (hts (.arrayOver (.array .int)) (by decide +kernel))
  refine ⟨fun c => match c with | 0 => d0 | 1 => d1 | 2 => d2 | 3 => d3 | 4 => d4 | 5 => d5 | _ => d6, fun c => match c with | 0 => e0 | 1 => e1 | 2 => e2 | 3 => e3 | 4 => e4 | 5 => e5 | _ => e6, cI, cJ, cZ, cG, fun c q hq => ?_, fun k q hk => ?_⟩
  · have hlt : c < 7 := (List.getElem?_eq_some_iff.mp hq).1
    rcases (show c = 0 ∨ c = 1 ∨ c = 2 ∨ c = 3 ∨ c = 4 ∨ c = 5 ∨ c = 6 by omega) with rfl | rfl | rfl | rfl | rfl | rfl | rfl
    · obtain rfl : (RX0, TX0, 9) = q := Option.some.inj hq
      exact k0
    · obtain rfl : (RX1, TX1, 2) = q := Option.some.inj hq
      exact k1
    · obtain rfl : (RX2, TX2, 5) = q := Option.some.inj hq
      exact k2
    · obtain rfl : (RX3, TX3, 6) = q := Option.some.inj hq
      exact k3
    · obtain rfl : (RX5, TX5, 11) = q := Option.some.inj hq
      exact k4
    · obtain rfl : (RX6, TX6, 9) = q := Option.some.inj hq
      exact k5
    · obtain rfl : (RX7, TX7, 30) = q := Option.some.inj hq
      exact k6
  · have hlt : k < 4 := (List.getElem?_eq_some_iff.mp hk).1
    rcases (show k = 0 ∨ k = 1 ∨ k = 2 ∨ k = 3 by omega) with rfl | rfl | rfl | rfl
    · obtain rfl : (cI, FieldType.int) = q := Option.some.inj hk
      exact ⟨i1, i2⟩
    · obtain rfl : (cJ, FieldType.long) = q := Option.some.inj hk
      exact ⟨j1, j2⟩
    · obtain rfl : (cZ, FieldType.boolean) = q := Option.some.inj hk
      exact ⟨z1, z2⟩
    · obtain rfl : (cG, FieldType.array FieldType.int) = q := Option.some.inj hk
      exact ⟨g1, g2⟩
theorem NWs_of {args : Array Value} {s : State} (hts : ∀ w ∈ lw_tbl, w.before args s = true) : NWs s := ⟨va_Nw.of rfl (hts (.methodLinkNest RX6 9 yX5_init RX6) (by decide +kernel)), va_Nw.of rfl (hts (.methodLinkNest RX6 18 yX3_init RX6) (by decide +kernel)), va_Nw.of rfl (hts (.methodLinkNest RX6 25 yX2_init RX6) (by decide +kernel)), va_Nw.of rfl (hts (.methodLinkNest RX6 32 yX0_init RX6) (by decide +kernel)), va_Nw.of rfl (hts (.methodLinkNest RX6 39 yX1_init RX6) (by decide +kernel)), Jvm.Stand.arrayOver_alikeB (Vm.Alike.refl _) (hts (.arrayOver (.array .int)) (by decide +kernel))⟩
theorem SU_new : SU 0 0 0 (fun _ => 0) (fun _ => 0) (fun _ => 0) (fun _ _ => 0) (fun _ => 0) (fun _ => 0) (fun _ _ => 0) (fun _ => 0) (fun _ => 0) (fun _ => 0) (fun _ => 0) (fun _ => 0) (fun _ => 0) (fun _ => 0) := by
  refine ⟨by omega, by omega, by omega, fun c h => absurd h (Nat.not_lt_zero _), ?_, fun c h => absurd h (Nat.not_lt_zero _), fun c h => absurd h (Nat.not_lt_zero _), fun c h => absurd h (Nat.not_lt_zero _), fun c h => absurd h (Nat.not_lt_zero _), fun c h => absurd h (Nat.not_lt_zero _), fun _ _ _ _ _ => rfl, fun _ _ _ _ _ => rfl⟩
  show 1 ≤ 2000
  omega

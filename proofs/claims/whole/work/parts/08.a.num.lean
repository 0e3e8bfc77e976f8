/-! ===== numbers: rows of kit/laws/BITS.to-paste (wb_), then my own ===== -/
theorem wb_tb (n : Nat) : (lN n).toBitVec = BitVec.ofNat 64 n := rfl
theorem wb_inj {a b : Int64} (h : a.toBitVec = b.toBitVec) : a = b := Int64.toBitVec_inj.mp h
theorem wb_tn {n : Nat} (h : n < 2 ^ 64) : (lN n).toBitVec.toNat = n := by rw [wb_tb, BitVec.toNat_ofNat, Nat.mod_eq_of_lt h]
theorem wb_of (x : Int64) : ∃ n, n < 2 ^ 64 ∧ x = lN n := ⟨x.toBitVec.toNat, x.toBitVec.isLt, wb_inj (by rw [wb_tb]; simp)⟩
theorem wb_of32 (x : Int32) : ∃ n, n < 2 ^ 32 ∧ x = nI n := ⟨x.toBitVec.toNat, x.toBitVec.isLt, Int32.toBitVec_inj.mp (by show _ = BitVec.ofNat 32 _; simp)⟩
theorem wb_c : ∀ k, k < 64 → ((nI k).toInt64 &&& 63) = lN k := by decide +kernel
theorem wb_cu : ∀ k, k < 64 → ((nI k).toInt64.toUInt64 &&& Int64.toUInt64 63) = UInt64.ofNat k := by decide +kernel
theorem wb_sm : ∀ k, k < 64 → (BitVec.ofNat 64 k).smod 64 = BitVec.ofNat 64 k := by decide +kernel
theorem wb_pw {a b : Nat} (h : a ≤ b) : 2 ^ b = 2 ^ a * 2 ^ (b - a) := by rw [← Nat.pow_add]; congr 1; omega
theorem wb_lt2 {a b : Nat} (h : a < b) : 2 ^ a < 2 ^ b := Nat.pow_lt_pow_right (by decide) h
theorem wb_mod (n : Nat) : lN n = lN (n % 2 ^ 64) := wb_inj (by rw [wb_tb, wb_tb]; apply BitVec.eq_of_toNat_eq; rw [BitVec.toNat_ofNat, BitVec.toNat_ofNat, Nat.mod_mod])
theorem wb_shr {n k : Nat} (hn : n < 2 ^ 64) (hk : k < 64) : ((lN n).toUInt64 >>> ((nI k).toInt64.toUInt64 &&& Int64.toUInt64 63)).toInt64 = lN (n / 2 ^ k) := by
  rw [wb_cu k hk]
  apply wb_inj
  apply BitVec.eq_of_toNat_eq
  show ((lN n).toUInt64 >>> UInt64.ofNat k).toNat = (BitVec.ofNat 64 _).toNat
  have h1 : (UInt64.ofNat k).toNat = k := by
    show (BitVec.ofNat 64 k).toNat = k
    rw [BitVec.toNat_ofNat, Nat.mod_eq_of_lt (by omega)]
  have h2 : (lN n).toUInt64.toNat = n := wb_tn hn
  rw [UInt64.toNat_shiftRight, h1, h2, Nat.mod_eq_of_lt hk, Nat.shiftRight_eq_div_pow, BitVec.toNat_ofNat, Nat.mod_eq_of_lt (Nat.lt_of_le_of_lt (Nat.div_le_self _ _) hn)]
theorem wb_shl (n : Nat) {k : Nat} (hk : k < 64) : lN n <<< ((nI k).toInt64 &&& 63) = lN (n * 2 ^ k) := by
  rw [wb_c k hk]
  apply wb_inj
  rw [Int64.toBitVec_shiftLeft, wb_tb, wb_tb, wb_tb, wb_sm k hk]
  apply BitVec.eq_of_toNat_eq
  rw [BitVec.shiftLeft_eq', BitVec.toNat_shiftLeft, BitVec.toNat_ofNat, BitVec.toNat_ofNat, BitVec.toNat_ofNat, Nat.mod_eq_of_lt (show k < 2 ^ 64 by omega), Nat.shiftLeft_eq, Nat.mul_mod, Nat.mod_mod, ← Nat.mul_mod]
theorem wb_and {a b : Nat} (ha : a < 2 ^ 64) (hb : b < 2 ^ 64) : lN a &&& lN b = lN (a &&& b) := by
  apply wb_inj
  rw [Int64.toBitVec_and, wb_tb, wb_tb, wb_tb]
  apply BitVec.eq_of_toNat_eq
  rw [BitVec.toNat_and, BitVec.toNat_ofNat, BitVec.toNat_ofNat, BitVec.toNat_ofNat, Nat.mod_eq_of_lt ha, Nat.mod_eq_of_lt hb, Nat.mod_eq_of_lt (Nat.and_lt_two_pow _ hb)]
theorem wb_or {a b : Nat} (ha : a < 2 ^ 64) (hb : b < 2 ^ 64) : lN a ||| lN b = lN (a ||| b) := by
  apply wb_inj
  rw [Int64.toBitVec_or, wb_tb, wb_tb, wb_tb]
  apply BitVec.eq_of_toNat_eq
  rw [BitVec.toNat_or, BitVec.toNat_ofNat, BitVec.toNat_ofNat, BitVec.toNat_ofNat, Nat.mod_eq_of_lt ha, Nat.mod_eq_of_lt hb, Nat.mod_eq_of_lt (Nat.or_lt_two_pow ha hb)]
theorem wb_mask {n k : Nat} (hn : n < 2 ^ 64) (hk : k < 64) : lN n &&& lN (2 ^ k - 1) = lN (n % 2 ^ k) := by
  rw [wb_and hn (by have := wb_lt2 hk; omega), Nat.and_two_pow_sub_one_eq_mod]
/-- an Int32 by its whole number -/
def iZ (n : Int) : Int32 := Int32.ofInt n
def jZ (n : Int) : Int64 := Int64.ofInt n
theorem iZ_of (x : Int32) : iZ x.toInt = x := Int32.ofInt_toInt x
theorem jZ_of (x : Int64) : jZ x.toInt = x := Int64.ofInt_toInt x
theorem iZ_toInt {n : Int} (h1 : -2147483648 ≤ n) (h2 : n < 2147483648) : (iZ n).toInt = n := Int32.toInt_ofInt_of_le h1 h2
theorem jZ_toInt {n : Int} (h1 : -9223372036854775808 ≤ n) (h2 : n < 9223372036854775808) : (jZ n).toInt = n := Int64.toInt_ofInt_of_le h1 h2
theorem iZ_nat (n : Nat) : iZ (n : Int) = nI n := Int32.ofInt_eq_ofNat
theorem jZ_nat (n : Nat) : jZ (n : Int) = lN n := Int64.ofInt_eq_ofNat
theorem iZ_add (a b : Int) : iZ a + iZ b = iZ (a + b) := (Int32.ofInt_add a b).symm
theorem iZ_sub (a b : Int) : iZ a - iZ b = iZ (a - b) := (Int32.ofInt_sub a b).symm
theorem iZ_mul (a b : Int) : iZ a * iZ b = iZ (a * b) := (Int32.ofInt_mul a b).symm
theorem jZ_add (a b : Int) : jZ a + jZ b = jZ (a + b) := (Int64.ofInt_add a b).symm
theorem jZ_sub (a b : Int) : jZ a - jZ b = jZ (a - b) := (Int64.ofInt_sub a b).symm
theorem jZ_mul (a b : Int) : jZ a * jZ b = jZ (a * b) := (Int64.ofInt_mul a b).symm
theorem iZ_lt {a b : Int} (ha : -2147483648 ≤ a ∧ a < 2147483648) (hb : -2147483648 ≤ b ∧ b < 2147483648) : iZ a < iZ b ↔ a < b := by
  rw [Int32.lt_iff_toInt_lt, iZ_toInt ha.1 ha.2, iZ_toInt hb.1 hb.2]
theorem iZ_le {a b : Int} (ha : -2147483648 ≤ a ∧ a < 2147483648) (hb : -2147483648 ≤ b ∧ b < 2147483648) : iZ a ≤ iZ b ↔ a ≤ b := by
  rw [Int32.le_iff_toInt_le, iZ_toInt ha.1 ha.2, iZ_toInt hb.1 hb.2]
theorem iZ_inj {a b : Int} (ha : -2147483648 ≤ a ∧ a < 2147483648) (hb : -2147483648 ≤ b ∧ b < 2147483648) : iZ a = iZ b ↔ a = b := by
  rw [← Int32.toInt_inj, iZ_toInt ha.1 ha.2, iZ_toInt hb.1 hb.2]
theorem jZ_lt {a b : Int} (ha : -9223372036854775808 ≤ a ∧ a < 9223372036854775808) (hb : -9223372036854775808 ≤ b ∧ b < 9223372036854775808) : jZ a < jZ b ↔ a < b := by
  rw [Int64.lt_iff_toInt_lt, jZ_toInt ha.1 ha.2, jZ_toInt hb.1 hb.2]
theorem jZ_le {a b : Int} (ha : -9223372036854775808 ≤ a ∧ a < 9223372036854775808) (hb : -9223372036854775808 ≤ b ∧ b < 9223372036854775808) : jZ a ≤ jZ b ↔ a ≤ b := by
  rw [Int64.le_iff_toInt_le, jZ_toInt ha.1 ha.2, jZ_toInt hb.1 hb.2]
theorem jZ_inj {a b : Int} (ha : -9223372036854775808 ≤ a ∧ a < 9223372036854775808) (hb : -9223372036854775808 ≤ b ∧ b < 9223372036854775808) : jZ a = jZ b ↔ a = b := by
  rw [← Int64.toInt_inj, jZ_toInt ha.1 ha.2, jZ_toInt hb.1 hb.2]
theorem iZ_j {n : Int} (h1 : -2147483648 ≤ n) (h2 : n < 2147483648) : (iZ n).toInt64 = jZ n := by
  rw [← Int64.toInt_inj, Int32.toInt_toInt64, iZ_toInt h1 h2, jZ_toInt (by omega) (by omega)]
/-- sums of products, as both classes make them -/
def sumN (f g : Nat → Int32) : Nat → Int32
  | 0 => 0
  | n + 1 => sumN f g n + f n * g n
theorem sumN_congr {f g f' g' : Nat → Int32} : ∀ (n : Nat), (∀ c, c < n → f c = f' c ∧ g c = g' c) → sumN f g n = sumN f' g' n
  | 0, _ => rfl
  | n + 1, h => by
    show sumN f g n + f n * g n = sumN f' g' n + f' n * g' n
    rw [sumN_congr n (fun c hc => h c (Nat.lt_succ_of_lt hc)), (h n (Nat.lt_succ_self n)).1, (h n (Nat.lt_succ_self n)).2]
theorem abs_mul_le {x y X Y : Int} (hx : -X ≤ x ∧ x ≤ X) (hy : -Y ≤ y ∧ y ≤ Y) : -(X * Y) ≤ x * y ∧ x * y ≤ X * Y := by
  have hX : 0 ≤ X := by omega
  have hY : 0 ≤ Y := by omega
  have h1 : x.natAbs ≤ X.natAbs := by omega
  have h2 : y.natAbs ≤ Y.natAbs := by omega
  have h3 : (x * y).natAbs ≤ (X * Y).natAbs := by
    rw [Int.natAbs_mul, Int.natAbs_mul]
    exact Nat.mul_le_mul h1 h2
  have h4 : 0 ≤ X * Y := Int.mul_nonneg hX hY
  omega
/-- the whole number of a sum of products of small numbers -/
theorem sumN_bound {f g : Nat → Int32} : ∀ (n : Nat), n ≤ 8 → (∀ c, c < n → -9 ≤ (f c).toInt ∧ (f c).toInt ≤ 9 ∧ -21 ≤ (g c).toInt ∧ (g c).toInt ≤ 21) → -(189 * (n : Int)) ≤ (sumN f g n).toInt ∧ (sumN f g n).toInt ≤ 189 * n
  | 0, _, _ => by
    show -(189 * ((0 : Nat) : Int)) ≤ (0 : Int32).toInt ∧ (0 : Int32).toInt ≤ 189 * ((0 : Nat) : Int)
    rw [Int32.toInt_zero]
    omega
  | n + 1, hn, h => by
    have ih := sumN_bound n (by omega) (fun c hc => h c (Nat.lt_succ_of_lt hc))
    obtain ⟨a1, a2, b1, b2⟩ := h n (Nat.lt_succ_self n)
    have hm := abs_mul_le (X := 9) (Y := 21) ⟨a1, a2⟩ ⟨b1, b2⟩
    have e : sumN f g (n + 1) = iZ ((sumN f g n).toInt + (f n).toInt * (g n).toInt) := by
      rw [← iZ_add, ← iZ_mul, iZ_of, iZ_of, iZ_of]
      rfl
    have hN : ((n + 1 : Nat) : Int) = (n : Int) + 1 := by omega
    rw [e, iZ_toInt (by omega) (by omega), hN]
    omega
/-! ===== a score in one long: four lanes of 16 bits ===== -/
def P4 (q : Nat → Nat) : Nat := q 0 * 281474976710656 + q 1 * 4294967296 + q 2 * 65536 + q 3
theorem P4_lt {q : Nat → Nat} (h : ∀ a, a < 4 → q a < 16384) : P4 q < 4611686018427387904 := by
  have h0 := h 0 (by omega)
  have h1 := h 1 (by omega)
  have h2 := h 2 (by omega)
  have h3 := h 3 (by omega)
  unfold P4
  omega
theorem P4_get {q : Nat → Nat} (h : ∀ a, a < 4 → q a < 65536) {a : Nat} (ha : a < 4) : P4 q / 2 ^ (48 - 16 * a) % 65536 = q a := by
  have h0 := h 0 (by omega)
  have h1 := h 1 (by omega)
  have h2 := h 2 (by omega)
  have h3 := h 3 (by omega)
  unfold P4
  match a, ha with
  | 0, _ => show _ / 281474976710656 % 65536 = _; omega
  | 1, _ => show _ / 4294967296 % 65536 = _; omega
  | 2, _ => show _ / 65536 % 65536 = _; omega
  | 3, _ => show _ / 1 % 65536 = _; omega
theorem P4_inj {q r : Nat → Nat} (hq : ∀ a, a < 4 → q a < 65536) (hr : ∀ a, a < 4 → r a < 65536) (e : P4 q = P4 r) : ∀ a, a < 4 → q a = r a := fun a ha => by
  rw [← P4_get hq ha, ← P4_get hr ha, e]
theorem P4_congr {q r : Nat → Nat} (h : ∀ a, a < 4 → q a = r a) : P4 q = P4 r := by
  unfold P4
  rw [h 0 (by omega), h 1 (by omega), h 2 (by omega), h 3 (by omega)]
theorem guard_bits : ∀ i : Fin 64, Nat.testBit 4611756388245323776 i.val = true → i.val = 14 ∨ i.val = 30 ∨ i.val = 46 ∨ i.val = 62 := by decide +kernel
theorem guard_and {N : Nat} : N &&& 4611756388245323776 = 4611756388245323776 ↔ N / 16384 % 2 = 1 ∧ N / 1073741824 % 2 = 1 ∧ N / 70368744177664 % 2 = 1 ∧ N / 4611686018427387904 % 2 = 1 := by
  have tb : ∀ k : Nat, N.testBit k = true ↔ N / 2 ^ k % 2 = 1 := fun k => by
    rw [Nat.testBit_eq_decide_div_mod_eq]
    simp
  constructor
  · intro h
    have bit : ∀ k, Nat.testBit 4611756388245323776 k = true → N.testBit k = true := fun k hk => by
      have := congrArg (fun n => Nat.testBit n k) h
      simp only [Nat.testBit_and, hk, Bool.and_true] at this
      exact this
    exact ⟨(tb 14).mp (bit 14 (by decide)), (tb 30).mp (bit 30 (by decide)), (tb 46).mp (bit 46 (by decide)), (tb 62).mp (bit 62 (by decide))⟩
  · rintro ⟨h1, h2, h3, h4⟩
    apply Nat.eq_of_testBit_eq
    intro i
    rw [Nat.testBit_and]
    cases hg : Nat.testBit 4611756388245323776 i with
    | false => rw [Bool.and_false]
    | true =>
      rw [Bool.and_true]
      have hi : i < 64 := by
        rcases Nat.lt_or_ge i 64 with h | h
        · exact h
        · have : Nat.testBit 4611756388245323776 i = false := Nat.testBit_lt_two_pow (Nat.lt_of_lt_of_le (by decide : 4611756388245323776 < 2 ^ 64) (Nat.pow_le_pow_right (by decide) h))
          rw [hg] at this
          cases this
      rcases guard_bits ⟨i, hi⟩ hg with e | e | e | e <;> (have e : i = _ := e; subst e)
      · exact (tb 14).mpr h1
      · exact (tb 30).mpr h2
      · exact (tb 46).mpr h3
      · exact (tb 62).mpr h4
/-- one subtraction compares all lanes at once -/
theorem guard_all {q r : Nat → Nat} (hq : ∀ a, a < 4 → q a < 16384) (hr : ∀ a, a < 4 → r a < 16384) : (P4 r + 4611756388245323776 - P4 q) &&& 4611756388245323776 = 4611756388245323776 ↔ ∀ a, a < 4 → q a ≤ r a := by
  have q0 := hq 0 (by omega)
  have q1 := hq 1 (by omega)
  have q2 := hq 2 (by omega)
  have q3 := hq 3 (by omega)
  have r0 := hr 0 (by omega)
  have r1 := hr 1 (by omega)
  have r2 := hr 2 (by omega)
  have r3 := hr 3 (by omega)
  rw [guard_and]
  constructor
  · rintro ⟨h1, h2, h3, h4⟩ a ha
    unfold P4 at h1 h2 h3 h4
    match a, ha with
    | 0, _ => omega
    | 1, _ => omega
    | 2, _ => omega
    | 3, _ => omega
  · intro h
    have e0 := h 0 (by omega)
    have e1 := h 1 (by omega)
    have e2 := h 2 (by omega)
    have e3 := h 3 (by omega)
    unfold P4
    refine ⟨?_, ?_, ?_, ?_⟩ <;> omega

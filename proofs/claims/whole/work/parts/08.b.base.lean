/-! ===== the small methods' predicates ===== -/
theorem cl_nI {n : Nat} (h : n < 2147483648) : (nI n).toNatClampNeg = n := nI_clamp h
theorem nI_sub1 {n : Nat} (h : 0 < n) : nI n - 1 = nI (n - 1) := by
  have := pk_sub (a := n) (b := 1) h
  exact this
theorem w_place {a : Nat} (ha : a < 4) {post : Int32 → Prop} (h : post (nI (48 - 16 * a))) : wp_X4_place (nI a) post := by
  unfold wp_X4_place
  have e : (48 : Int32) - ((16 : Int32) * nI a) = nI (48 - 16 * a) := by
    rw [show (16 : Int32) = nI 16 from rfl, show (48 : Int32) = nI 48 from rfl, pk_mul, pk_sub (by omega)]
  rw [e]
  exact h
theorem P4_lt64 {q : Nat → Nat} (h : ∀ a, a < 4 → q a < 65536) : P4 q < 2 ^ 64 := by
  have h0 := h 0 (by omega)
  have h1 := h 1 (by omega)
  have h2 := h 2 (by omega)
  have h3 := h 3 (by omega)
  unfold P4
  omega
theorem w_number {q : Nat → Nat} (hq : ∀ a, a < 4 → q a < 65536) {a : Nat} (ha : a < 4) {post : Int32 → Prop} (h : post (iZ ((q a : Int) - 2048))) : wp_X4_number (lN (P4 q)) (nI a) post := by
  unfold wp_X4_number
  refine w_place ha ?_
  have hk : 48 - 16 * a < 64 := by omega
  have hP := P4_lt64 hq
  have e : ((((lN (P4 q)).toUInt64 >>> ((nI (48 - 16 * a)).toInt64.toUInt64 &&& Int64.toUInt64 63)).toInt64 &&& (65535 : Int64)).toInt32 - (2048 : Int32)) = iZ ((q a : Int) - 2048) := by
    rw [wb_shr hP hk, show (65535 : Int64) = lN (2 ^ 16 - 1) from rfl, wb_mask (Nat.lt_of_le_of_lt (Nat.div_le_self _ _) hP) (by decide), show (2 : Nat) ^ 16 = 65536 from rfl, P4_get hq ha, lN_i, ← iZ_nat, show (2048 : Int32) = iZ 2048 from rfl, iZ_sub]
  exact e ▸ h
theorem w_lane {a : Nat} (ha : a < 4) {v : Int} (h1 : -2048 ≤ v) (h2 : v < 63488) {post : Int64 → Prop} (h : post (lN ((v + 2048).toNat * 2 ^ (48 - 16 * a)))) : wp_X4_lane (nI a) (iZ v) post := by
  unfold wp_X4_lane
  refine w_place ha ?_
  have hk : 48 - 16 * a < 64 := by omega
  have e : ((iZ v + (2048 : Int32)).toInt64) <<< ((nI (48 - 16 * a)).toInt64 &&& 63) = lN ((v + 2048).toNat * 2 ^ (48 - 16 * a)) := by
    have e1 : iZ v + (2048 : Int32) = nI (v + 2048).toNat := by
      rw [show (2048 : Int32) = iZ 2048 from rfl, iZ_add, ← iZ_nat, Int.toNat_of_nonneg (by omega)]
    rw [e1, nI_l (by omega), wb_shl _ hk]
  rw [e]
  exact h
theorem w_ing {q r : Nat → Nat} (hq : ∀ a, a < 4 → q a < 16384) (hr : ∀ a, a < 4 → r a < 16384) {post : Int32 → Prop} (h1 : (∀ a, a < 4 → q a ≤ r a) → post 1) (h0 : ¬ (∀ a, a < 4 → q a ≤ r a) → post 0) : wp_X4_inNoneGreater (lN (P4 q)) (lN (P4 r)) post := by
  unfold wp_X4_inNoneGreater
  have bq := P4_lt hq
  have br := P4_lt hr
  have e : ((lN (P4 r) + (4611756388245323776 : Int64)) - lN (P4 q)) &&& (4611756388245323776 : Int64) = lN ((P4 r + 4611756388245323776 - P4 q) &&& 4611756388245323776) := by
    rw [show (4611756388245323776 : Int64) = lN 4611756388245323776 from rfl, lN_add, lN_sub (by omega), wb_and (by omega) (by omega)]
  have hlt : (P4 r + 4611756388245323776 - P4 q) &&& 4611756388245323776 < 2 ^ 63 := Nat.lt_of_le_of_lt Nat.and_le_right (by decide)
  have g := guard_all hq hr
  rw [e, show (4611756388245323776 : Int64) = lN 4611756388245323776 from rfl]
  have i : lN ((P4 r + 4611756388245323776 - P4 q) &&& 4611756388245323776) = lN 4611756388245323776 ↔ ∀ a, a < 4 → q a ≤ r a := by
    rw [pk_lEQ hlt (by decide), g]
  exact ⟨fun h => h1 (i.mp h), fun h => h0 (fun z => h (i.mpr z))⟩
theorem w_among {x y : Int32} {post : Int32 → Prop} (h1 : ¬ x < 0 → x < y → post 1) (h0 : x < 0 ∨ ¬ x < y → post 0) : wp_X6_among x y post := by
  unfold wp_X6_among
  refine ⟨fun h => h0 (Or.inl h), fun h => ⟨fun h2 => h0 (Or.inr (fun h3 => ?_)), fun h2 => h1 h ?_⟩⟩
  · rw [Int32.le_iff_toInt_le] at h2
    rw [Int32.lt_iff_toInt_lt] at h3
    omega
  · rw [Int32.le_iff_toInt_le] at h2
    rw [Int32.lt_iff_toInt_lt]
    omega
/-- an index against a count -/
theorem w_amongN {x : Int32} {n : Nat} (hn : n < 2147483648) {post : Int32 → Prop} (h1 : ∀ j : Nat, j < n → x = nI j → post 1) (h0 : (∀ j : Nat, j < n → x ≠ nI j) → post 0) : wp_X6_among x (nI n) post := by
  refine w_among (fun a b => ?_) (fun a => h0 (fun j hj e => ?_))
  · obtain ⟨j, hj, rfl⟩ := nI_of a
    exact h1 j ((nI_ltI hj hn).mp b) rfl
  · subst e
    rcases a with a | a
    · exact nI_pos (by omega) a
    · exact a ((nI_ltI (by omega) hn).mpr hj)
theorem w_in {x a b : Int64} {post : Int32 → Prop} (h1 : a ≤ x → x ≤ b → post 1) (h0 : ¬ (a ≤ x ∧ x ≤ b) → post 0) : wp_X7_in x a b post := by
  unfold wp_X7_in
  simp only [Int64.lt_iff_toInt_lt, Int64.le_iff_toInt_le] at *
  refine ⟨fun h => h0 (by omega), fun h => ⟨fun h2 => h0 (by omega), fun h2 => h1 (by omega) (by omega)⟩⟩
/-- 'in' over ints -/
theorem w_inI {x a b : Int32} {post : Int32 → Prop} (h1 : a.toInt ≤ x.toInt → x.toInt ≤ b.toInt → post 1) (h0 : ¬ (a.toInt ≤ x.toInt ∧ x.toInt ≤ b.toInt) → post 0) : wp_X7_in x.toInt64 a.toInt64 b.toInt64 post := by
  refine w_in (fun u v => h1 ?_ ?_) (fun u => h0 (fun w => u ?_))
  · simpa [Int64.le_iff_toInt_le] using u
  · simpa [Int64.le_iff_toInt_le] using v
  · simpa [Int64.le_iff_toInt_le] using w
theorem w_sum {f g : Nat → Int32} {n : Nat} (hn : n ≤ 8) {post : Int32 → Prop} (h : post (sumN f g n)) : wp_X5_sum f g (nI n) post := by
  unfold wp_X5_sum
  refine Lq2_inv (fun s i => ∃ j : Nat, j ≤ n ∧ i = nI j ∧ s = sumN f g j) (fun _ i => n - i.toNatClampNeg) ?_ _ _ ⟨0, Nat.zero_le _, rfl, rfl⟩
  rintro s i ⟨j, hj, rfl, rfl⟩ w hw
  unfold b_X5_sum_5
  refine ⟨fun hle => ?_, fun hlt => ?_⟩
  · have : n ≤ j := (nI_leI (by omega) (by omega)).mp hle
    have : j = n := by omega
    subst this
    exact h
  · have hjn : j < n := by
      rcases Nat.lt_or_ge j n with q | q
      · exact q
      · exact absurd ((nI_leI (by omega) (by omega)).mpr q) hlt
    have hin : vp_in (nI j) 8 := vp_in_nI (by omega) (by decide)
    refine ⟨hin, hin, hw _ _ ⟨j + 1, by omega, nI_1 j, ?_⟩ ?_⟩
    · rw [cl_nI (by omega)]
      rfl
    · rw [nI_1, cl_nI (by omega), cl_nI (by omega)]
      omega

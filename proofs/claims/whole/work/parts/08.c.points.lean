/-! ===== points: widths, their product, the numbers of point n ===== -/
def wN (lo hi : Nat → Int32) (c : Nat) : Nat := ((hi c).toInt - (lo c).toInt + 1).toNat
def wP (lo hi : Nat → Int32) : Nat → Nat
  | 0 => 1
  | n + 1 => wP lo hi n * wN lo hi n
/-- bounds of the columns below n -/
def okB (lo hi : Nat → Int32) (n : Nat) : Prop := ∀ c, c < n → -20 ≤ (lo c).toInt ∧ (lo c).toInt ≤ (hi c).toInt ∧ (hi c).toInt ≤ 20
theorem wN_in {lo hi : Nat → Int32} {n c : Nat} (h : okB lo hi n) (hc : c < n) : 1 ≤ wN lo hi c ∧ wN lo hi c ≤ 41 := by
  obtain ⟨h1, h2, h3⟩ := h c hc
  unfold wN
  omega
theorem wN_eq {lo hi : Nat → Int32} {n c : Nat} (h : okB lo hi n) (hc : c < n) : hi c - lo c + 1 = nI (wN lo hi c) := by
  obtain ⟨h1, h2, h3⟩ := h c hc
  rw [← iZ_of (hi c), ← iZ_of (lo c), show (1 : Int32) = iZ 1 from rfl, iZ_sub, iZ_add, ← iZ_nat]
  unfold wN
  rw [Int.toNat_of_nonneg (by omega)]
theorem wN_congr {lo hi lo' hi' : Nat → Int32} {c : Nat} (h : lo c = lo' c ∧ hi c = hi' c) : wN lo hi c = wN lo' hi' c := by
  unfold wN
  rw [h.1, h.2]
theorem wP_congr {lo hi lo' hi' : Nat → Int32} : ∀ (n : Nat), (∀ c, c < n → lo c = lo' c ∧ hi c = hi' c) → wP lo hi n = wP lo' hi' n
  | 0, _ => rfl
  | n + 1, h => by
    show wP lo hi n * wN lo hi n = wP lo' hi' n * wN lo' hi' n
    rw [wP_congr n (fun c hc => h c (by omega)), wN_congr (h n (by omega))]
theorem wP_pos {lo hi : Nat → Int32} : ∀ (n : Nat), okB lo hi n → 1 ≤ wP lo hi n
  | 0, _ => Nat.le_refl 1
  | n + 1, h => Nat.mul_le_mul (wP_pos n (fun c hc => h c (by omega))) (wN_in h (Nat.lt_succ_self n)).1
theorem w_points {lo hi : Nat → Int32} {n : Nat} (hn : n ≤ 8) (hb : okB lo hi n) {post : Int32 → Prop} (h : post (nI (wP lo hi n))) : wp_X7_points (nI n) hi lo post := by
  unfold wp_X7_points
  refine Lq2_inv (fun s i => ∃ j : Nat, j ≤ n ∧ i = nI j ∧ s = nI (wP lo hi j)) (fun _ i => n - i.toNatClampNeg) ?_ _ _ ⟨0, Nat.zero_le _, rfl, rfl⟩
  rintro s i ⟨j, hj, rfl, rfl⟩ w hw
  unfold b_X7_points_4
  refine ⟨fun hle => ?_, fun hlt => ?_⟩
  · have : n ≤ j := (nI_leI (by omega) (by omega)).mp hle
    have : j = n := by omega
    subst this
    exact h
  · have hjn : j < n := by
      rcases Nat.lt_or_ge j n with q | q
      · exact q
      · exact absurd ((nI_leI (by omega) (by omega)).mpr q) hlt
    have hin : vp_in (nI j) 8 := vp_in_nI (by omega) (by decide)
    refine ⟨hin, hin, hw _ _ ⟨j + 1, by omega, nI_1 j, ?_⟩ ?_⟩
    · rw [cl_nI (by omega), wN_eq hb hjn, pk_mul]
      rfl
    · rw [nI_1, cl_nI (by omega), cl_nI (by omega)]
      omega
/-- the numbers of point n, laid into f from column c - 1 down to 0 -/
def fz (lo hi : Nat → Int32) : Nat → Nat → (Nat → Int32) → (Nat → Int32)
  | 0, _, f => f
  | c + 1, n, f => fz lo hi c (n / wN lo hi c) (upd f c (lo c + nI (n % wN lo hi c)))
theorem fz_out {lo hi : Nat → Int32} : ∀ (c n : Nat) (f : Nat → Int32) (k : Nat), c ≤ k → fz lo hi c n f k = f k
  | 0, _, _, _, _ => rfl
  | c + 1, n, f, k, h => by
    show fz lo hi c _ _ k = f k
    rw [fz_out c _ _ k (by omega), pk_un (by omega)]
theorem fz_in {lo hi : Nat → Int32} : ∀ (c n : Nat) (f g : Nat → Int32) (k : Nat), k < c → fz lo hi c n f k = fz lo hi c n g k
  | c + 1, n, f, g, k, h => by
    show fz lo hi c _ _ k = fz lo hi c _ _ k
    by_cases e : k < c
    · exact fz_in c _ _ _ k e
    · have : k = c := by omega
      subst this
      rw [fz_out _ _ _ _ (Nat.le_refl _), fz_out _ _ _ _ (Nat.le_refl _), pk_us, pk_us]
theorem fz_congr {lo hi lo' hi' : Nat → Int32} : ∀ (c n : Nat) (f : Nat → Int32), (∀ k, k < c → lo k = lo' k ∧ hi k = hi' k) → fz lo hi c n f = fz lo' hi' c n f
  | 0, _, _, _ => rfl
  | c + 1, n, f, h => by
    show fz lo hi c _ _ = fz lo' hi' c _ _
    rw [wN_congr (h c (by omega)), (h c (by omega)).1]
    exact fz_congr c _ _ (fun k hk => h k (by omega))
theorem fz_bd {lo hi : Nat → Int32} : ∀ (c n : Nat) (f : Nat → Int32), okB lo hi c → ∀ k, k < c → (lo k).toInt ≤ (fz lo hi c n f k).toInt ∧ (fz lo hi c n f k).toInt ≤ (hi k).toInt
  | c + 1, n, f, h, k, hk => by
    show (lo k).toInt ≤ (fz lo hi c _ _ k).toInt ∧ (fz lo hi c _ _ k).toInt ≤ (hi k).toInt
    by_cases e : k < c
    · exact fz_bd c _ _ (fun c' hc' => h c' (by omega)) k e
    · have : k = c := by omega
      subst this
      rw [fz_out _ _ _ _ (Nat.le_refl _), pk_us]
      obtain ⟨h1, h2, h3⟩ := h k hk
      have hw := (wN_in h hk).1
      have hm : n % wN lo hi k < wN lo hi k := Nat.mod_lt _ (by omega)
      have ew : (wN lo hi k : Int) = (hi k).toInt - (lo k).toInt + 1 := by
        unfold wN
        omega
      have e1 : lo k + nI (n % wN lo hi k) = iZ ((lo k).toInt + (n % wN lo hi k : Nat)) := by
        rw [← iZ_add, iZ_of, iZ_nat]
      rw [e1, iZ_toInt (by omega) (by omega)]
      omega
theorem w_fill {lo hi : Nat → Int32} {nc : Nat} (hn : nc ≤ 8) (hb : okB lo hi nc) {n : Nat} (hN : n < 2147483648) {f : Nat → Int32} {post : (Nat → Int32) → Prop} (h : post (fz lo hi nc n f)) : wp_X5_fill f (nI nc) hi lo (nI n) post := by
  unfold wp_X5_fill
  refine Lq3_inv (fun r i g => ∃ j m : Nat, j ≤ nc ∧ m < 2147483648 ∧ i = nI j - 1 ∧ r = nI m ∧ fz lo hi j m g = fz lo hi nc n f) (fun _ i _ => (i + 1).toNatClampNeg) ?_ _ _ _ ⟨nc, n, Nat.le_refl _, hN, rfl, rfl, rfl⟩
  rintro r i g ⟨j, m, hj, hm, rfl, rfl, e⟩ w hw
  unfold b_X5_fill_10
  cases j with
  | zero =>
    refine ⟨fun _ => ?_, fun hq => absurd (by decide : nI 0 - 1 < 0) hq⟩
    rw [← e] at h
    exact h
  | succ j =>
    rw [nI_pred]
    refine ⟨fun hq => absurd hq (nI_pos (by omega)), fun _ => ?_⟩
    have hin : vp_in (nI j) 8 := vp_in_nI (by omega) (by decide)
    have hwn := wN_in hb (show j < nc by omega)
    have eif : (if (1 : Int32) < hi j - lo j + 1 then hi j - lo j + 1 else (1 : Int32)) = nI (wN lo hi j) := by
      rw [wN_eq hb (show j < nc by omega)]
      split
      · rfl
      · rename_i hq
        have h1 : ¬ 1 < wN lo hi j := fun z => hq ((nI_ltI (a := 1) (by omega) (by omega)).mpr z)
        have h2 : wN lo hi j = 1 := by omega
        rw [h2]
        rfl
    rw [cl_nI (by omega), eif]
    have hne : ¬ nI (wN lo hi j) = 0 := nI_ne0 (by omega) (by omega)
    refine ⟨hin, hin, hin, hne, hin, hne, hw _ _ _ ⟨j, m / wN lo hi j, by omega, Nat.lt_of_le_of_lt (Nat.div_le_self _ _) hm, (Int32.sub_eq_add_neg _ _).symm, pk_div hm (by omega) (by omega), ?_⟩ ?_⟩
    · rw [← e, pk_rem hm (by omega) (by omega)]
      rfl
    · rw [show nI j + (-1 : Int32) + 1 = nI j by rw [Int32.add_assoc]; exact Int32.add_zero _, nI_pred, nI_1, cl_nI (by omega), cl_nI (by omega)]
      omega
theorem w_toPoint {lo hi : Nat → Int32} {nc : Nat} (hn : nc ≤ 8) (hb : okB lo hi nc) {n : Nat} (hN : n < 2147483648) {f : Nat → Int32} {post : (Nat → Int32) → Prop} (h : post (fz lo hi nc n f)) : wp_X7_toPoint (nI nc) hi lo f (nI n) post := by
  unfold wp_X7_toPoint
  refine Lq3_inv (fun r i g => ∃ j m : Nat, j ≤ nc ∧ m < 2147483648 ∧ i = nI j - 1 ∧ r = nI m ∧ fz lo hi j m g = fz lo hi nc n f) (fun _ i _ => (i + 1).toNatClampNeg) ?_ _ _ _ ⟨nc, n, Nat.le_refl _, hN, rfl, rfl, rfl⟩
  rintro r i g ⟨j, m, hj, hm, rfl, rfl, e⟩ w hw
  unfold b_X7_toPoint_9
  cases j with
  | zero =>
    refine ⟨fun _ => ?_, fun hq => absurd (by decide : nI 0 - 1 < 0) hq⟩
    rw [← e] at h
    exact h
  | succ j =>
    rw [nI_pred]
    refine ⟨fun hq => absurd hq (nI_pos (by omega)), fun _ => ?_⟩
    have hin : vp_in (nI j) 8 := vp_in_nI (by omega) (by decide)
    have hwn := wN_in hb (show j < nc by omega)
    rw [cl_nI (by omega), wN_eq hb (show j < nc by omega)]
    have hne : ¬ nI (wN lo hi j) = 0 := nI_ne0 (by omega) (by omega)
    refine ⟨hin, hin, hin, hne, hin, hne, hw _ _ _ ⟨j, m / wN lo hi j, by omega, Nat.lt_of_le_of_lt (Nat.div_le_self _ _) hm, (Int32.sub_eq_add_neg _ _).symm, pk_div hm (by omega) (by omega), ?_⟩ ?_⟩
    · rw [← e, pk_rem hm (by omega) (by omega)]
      rfl
    · rw [show nI j + (-1 : Int32) + 1 = nI j by rw [Int32.add_assoc]; exact Int32.add_zero _, nI_pred, nI_1, cl_nI (by omega), cl_nI (by omega)]
      omega

/-! ===== levels: the numbers of an aim in order, each once, and the end behind them ===== -/
/-- m numbers l 0 < .. < l (m - 1), those of f 0 .. f (nf - 1), and the end l m -/
def LV (nf : Nat) (f : Nat → Int) (m : Nat) (l : Nat → Int) : Prop :=
  1 ≤ m ∧ m ≤ 12 ∧ (∀ i j, i < j → j ≤ m → l i < l j) ∧ (∀ i, i < m → ∃ k, k < nf ∧ f k = l i) ∧ (∀ k, k < nf → ∃ i, i < m ∧ f k = l i) ∧ l m = l (m - 1) + 1
theorem LV_le {nf m : Nat} {f l : Nat → Int} (h : LV nf f m l) {i j : Nat} (hij : i ≤ j) (hj : j ≤ m) : l i ≤ l j := by
  rcases Nat.lt_or_ge i j with q | q
  · exact Int.le_of_lt (h.2.2.1 i j q hj)
  · have : i = j := by omega
    subst this
    exact Int.le_refl _
theorem LV_lt {nf m : Nat} {f l : Nat → Int} (h : LV nf f m l) {i j : Nat} (hi : i ≤ m) (hj : j ≤ m) : l i < l j ↔ i < j := by
  constructor
  · intro q
    rcases Nat.lt_or_ge i j with z | z
    · exact z
    · have := LV_le h z hi
      omega
  · exact fun q => h.2.2.1 i j q hj
theorem LV_bd {nf m : Nat} {f l : Nat → Int} (h : LV nf f m l) (hb : ∀ k, k < nf → -2000 ≤ f k ∧ f k ≤ 2000) {i : Nat} (hi : i ≤ m) : -2000 ≤ l i ∧ l i ≤ 2001 ∧ (i < m → l i ≤ 2000) := by
  obtain ⟨h1, h2, h3, h4, h5, h6⟩ := h
  have b : ∀ i, i < m → -2000 ≤ l i ∧ l i ≤ 2000 := fun i hi => by
    obtain ⟨k, hk, e⟩ := h4 i hi
    rw [← e]
    exact hb k hk
  rcases Nat.lt_or_ge i m with q | q
  · have := b i q
    exact ⟨this.1, by omega, fun _ => this.2⟩
  · have : i = m := by omega
    subst this
    have := b (i - 1) (by omega)
    exact ⟨by omega, by omega, fun z => absurd z (Nat.lt_irrefl _)⟩
/-- the levels as the class collects them: of the first j scores -/
def LI (f : Nat → Int32) (j c : Nat) (row : Nat → Int32) : Prop := c ≤ j ∧ (∀ i i', i < i' → i' < c → (row i).toInt < (row i').toInt) ∧ (∀ i, i < c → ∃ k, k < j ∧ f k = row i) ∧ ∀ k, k < j → ∃ i, i < c ∧ f k = row i
theorem w_putLevel {c : Nat} (hc : c ≤ 11) {row : Nat → Int32} (hr : ∀ i i', i < i' → i' < c → (row i).toInt < (row i').toInt) {x : Int32} {post : Int32 → (Nat → Int32) → Prop}
    (h0 : (∃ i, i < c ∧ row i = x) → post (nI c) row)
    (h1 : ∀ (pl : Nat) (r : Nat → Int32), pl ≤ c → (∀ i, i < pl → (row i).toInt < x.toInt) → (∀ i, pl ≤ i → i < c → x.toInt < (row i).toInt) → (∀ i, i < pl → r i = row i) → r pl = x → (∀ i, pl < i → i < c + 1 → r i = row (i - 1)) → post (nI (c + 1)) r) : wp_X0_putLevel row (nI c) x post := by
  unfold wp_X0_putLevel
  refine Lq1_inv (fun i => ∃ j : Nat, j ≤ c ∧ i = nI j ∧ ∀ i, i < j → (row i).toInt < x.toInt) (fun i => c - i.toNatClampNeg) ?_ _ ⟨0, Nat.zero_le _, rfl, fun i hi => absurd hi (Nat.not_lt_zero _)⟩
  rintro i ⟨j, hj, rfl, hi⟩ w hw
  unfold b_X0_putLevel_3
  have ins : (∀ i, j ≤ i → i < c → x.toInt < (row i).toInt) → ((nI c < (12 : Int32) → ¬ nI j < 0 ∧ ¬ (nI j + (1 : Int32)) < 0 ∧ ¬ (nI c - nI j) < 0 ∧ (nI j).toNatClampNeg + ((nI c - nI j)).toNatClampNeg ≤ 13 ∧ ((nI j + (1 : Int32))).toNatClampNeg + ((nI c - nI j)).toNatClampNeg ≤ 13 ∧ jv (va_cpy row row (nI j).toNatClampNeg ((nI j + (1 : Int32))).toNatClampNeg ((nI c - nI j)).toNatClampNeg) (fun (c_p1_57 : Nat → Int32) => vp_in (nI j) 13 ∧ post (nI c + (1 : Int32)) (upd c_p1_57 (nI j).toNatClampNeg x))) ∧ (¬ nI c < (12 : Int32) → post (nI c) row)) := fun hz => by
    refine ⟨fun _ => ?_, fun z => absurd ((nI_ltI (b := 12) (by omega) (by omega)).mpr (by omega)) z⟩
    rw [nI_1, nI_1, pk_sub hj, cl_nI (by omega), cl_nI (by omega), cl_nI (by omega)]
    have a1 : ¬ nI j < 0 := nI_pos (by omega)
    have a2 : ¬ nI (j + 1) < 0 := nI_pos (by omega)
    have a3 : ¬ nI (c - j) < 0 := nI_pos (by omega)
    refine ⟨a1, a2, a3, by omega, by omega, ?_⟩
    show vp_in (nI j) 13 ∧ _
    refine ⟨vp_in_nI (by omega) (by decide), ?_⟩
    refine h1 j _ hj hi hz (fun i hi => ?_) upd_s (fun i h1 h2 => ?_)
    · rw [upd_n (by omega), pk_cpy_out (by omega)]
    · rw [upd_n (by omega), pk_cpy_in (by omega) (by omega), show j + (i - (j + 1)) = i - 1 by omega]
  have big : j < c → x.toInt < (row j).toInt → ∀ i, j ≤ i → i < c → x.toInt < (row i).toInt := fun hjc hx i h1 h2 => by
    rcases Nat.lt_or_ge j i with q | q
    · have := hr j i q h2
      omega
    · have : i = j := by omega
      subst this
      exact hx
  refine ⟨fun hle => ?_, fun hlt => ?_⟩
  · have : c ≤ j := (nI_leI (by omega) (by omega)).mp hle
    have e : j = c := by omega
    subst e
    unfold jn0
    exact ⟨fun _ => ins (fun i h1 h2 => absurd h2 (by omega)), fun z => absurd hle z⟩
  · have hjc := nI_leN (by omega) (by omega) hlt
    have hin : vp_in (nI j) 13 := vp_in_nI (by omega) (by decide)
    rw [cl_nI (by omega)]
    refine ⟨hin, fun q => ?_, fun q => hw _ ⟨j + 1, by omega, nI_1 j, fun i hi' => ?_⟩ ?_⟩
    · unfold jn0
      refine ⟨fun z => absurd z hlt, fun _ => ⟨hin, fun e => h0 ⟨j, hjc, by rw [cl_nI (by omega)] at e; exact e⟩, fun e => ins (big hjc ?_)⟩⟩
      rw [cl_nI (by omega)] at e
      rw [Int32.le_iff_toInt_le] at q
      have : (row j).toInt ≠ x.toInt := fun z => e (Int32.toInt_inj.mp z)
      omega
    · have q1 := i_nle q
      rw [Int32.lt_iff_toInt_lt] at q1
      rcases Nat.lt_or_ge i j with z | z
      · exact hi i z
      · have : i = j := by omega
        subst this
        exact q1
    · rw [nI_1, cl_nI (by omega), cl_nI (by omega)]
      omega
section LEV
variable {na nf : Nat} {v : Nat → Nat → Int32} {scores : Nat → Int64} {FP PS : Nat → Int32}
theorem x_setLevels (hV : FV na nf v scores FP PS) (hn0 : 0 < nf) (hn12 : nf ≤ 12) {a : Nat} (ha : a < na) {ends : Nat → Int32} {levels : Nat → Nat → Int32} {post : (Nat → Int32) → (Nat → Nat → Int32) → Prop}
    (h : ∀ (m : Nat) (row : Nat → Int32), LV nf (fun k => (v k a).toInt) m (fun i => (row i).toInt) → post (upd ends a (nI m)) (updG levels a row)) : wp_X0_setLevels scores (nI nf) ends levels (nI a) post := by
  have hV' := hV
  obtain ⟨v1, v2, v3⟩ := hV'
  unfold wp_X0_setLevels
  refine Lq3_inv (fun cc i L => ∃ (j c : Nat) (row : Nat → Int32), j ≤ nf ∧ i = nI j ∧ cc = nI c ∧ (L = updG levels a row) ∧ LI (fun k => v k a) j c row) (fun _ i _ => nf - i.toNatClampNeg) ?_ _ _ _ ⟨0, 0, levels a, Nat.zero_le _, rfl, rfl, ?_, Nat.zero_le _, fun i i' _ h => absurd h (Nat.not_lt_zero _), fun i h => absurd h (Nat.not_lt_zero _), fun i h => absurd h (Nat.not_lt_zero _)⟩
  · rintro cc i L ⟨j, c, row, hj, rfl, rfl, rfl, l1, l2, l3, l4⟩ w hw
    unfold b_X0_setLevels_5
    have ha4 : vp_in (nI a) 4 := vp_in_nI (by omega) (by decide)
    refine ⟨fun hle => ?_, fun hlt => ?_⟩
    · have : nf ≤ j := (nI_leI (by omega) (by omega)).mp hle
      have e : j = nf := by omega
      subst e
      have hc0 : 0 < c := by
        obtain ⟨i, hi, -⟩ := l4 0 hn0
        omega
      refine ⟨fun q => absurd ((nI_leI (b := 0) (by omega) (by omega)).mp q) (by omega), fun _ => ⟨fun q => absurd ((nI_leI (a := 13) (by omega) (by omega)).mp q) (by omega), fun _ => ?_⟩⟩
      rw [nI_sub1 hc0]
      refine ⟨ha4, ha4, vp_in_nI (by omega) (by decide), vp_in_nI (by omega) (by decide), ha4, ?_⟩
      rw [cl_nI (by omega), cl_nI (by omega), cl_nI (by omega), updG_s]
      have eu : updG (updG levels a row) a (upd row c (row (c - 1) + 1)) = updG levels a (upd row c (row (c - 1) + 1)) := by
        funext k
        unfold updG
        split <;> rfl
      rw [eu]
      have bd : -2000 ≤ (row (c - 1)).toInt ∧ (row (c - 1)).toInt ≤ 2000 := by
        obtain ⟨k, hk, e⟩ := l3 (c - 1) (by omega)
        rw [← e]
        exact (v3 k hk).1 a ha
      have e1 : (row (c - 1) + 1).toInt = (row (c - 1)).toInt + 1 := by
        rw [← iZ_of (row (c - 1)), show (1 : Int32) = iZ 1 from rfl, iZ_add, iZ_toInt (by omega) (by omega), iZ_of]
      refine h c _ ⟨hc0, by omega, ?_, ?_, ?_, ?_⟩
      · intro i i' h1 h2
        show (upd row c _ i).toInt < (upd row c _ i').toInt
        rw [upd_n (by omega)]
        rcases Nat.lt_or_ge i' c with q | q
        · rw [upd_n (by omega)]
          exact l2 i i' h1 q
        · have : i' = c := by omega
          subst this
          rw [upd_s, e1]
          rcases Nat.lt_or_ge i (i' - 1) with q2 | q2
          · have := l2 i (i' - 1) q2 (by omega)
            omega
          · have : i = i' - 1 := by omega
            rw [this]
            omega
      · intro i hi
        obtain ⟨k, hk, e⟩ := l3 i hi
        refine ⟨k, hk, ?_⟩
        show _ = (upd row c _ i).toInt
        rw [upd_n (by omega)]
        exact congrArg Int32.toInt e
      · intro k hk
        obtain ⟨i, hi, e⟩ := l4 k hk
        refine ⟨i, hi, ?_⟩
        show _ = (upd row c _ i).toInt
        rw [upd_n (by omega)]
        exact congrArg Int32.toInt e
      · show (upd row c _ c).toInt = (upd row c _ (c - 1)).toInt + 1
        rw [upd_s, upd_n (by omega), e1]
    · have hjn := nI_leN (by omega) (by omega) hlt
      refine ⟨ha4, x_num hV hjn ha ?_⟩
      rw [cl_nI (by omega), updG_s]
      have dec : nf - (nI j + 1).toNatClampNeg < nf - (nI j).toNatClampNeg := by
        rw [nI_1, cl_nI (by omega), cl_nI (by omega)]
        omega
      have eu : ∀ r : Nat → Int32, updG (updG levels a row) a r = updG levels a r := fun r => by
        funext k
        unfold updG
        split <;> rfl
      refine w_putLevel (by omega) l2 (fun ⟨i, hi, e⟩ => ?_) (fun pl r hpl p1 p2 r1 r2 r3 => ?_)
      · rw [eu]
        refine hw _ _ _ ⟨j + 1, c, row, by omega, nI_1 j, rfl, rfl, by omega, l2, fun i hi => ?_, fun k hk => ?_⟩ dec
        · obtain ⟨k, hk, e⟩ := l3 i hi
          exact ⟨k, by omega, e⟩
        · rcases Nat.lt_or_ge k j with q | q
          · exact l4 k q
          · have : k = j := by omega
            subst this
            exact ⟨i, hi, e.symm⟩
      · rw [eu]
        refine hw _ _ _ ⟨j + 1, c + 1, r, by omega, nI_1 j, rfl, rfl, by omega, fun i i' h1 h2 => ?_, fun i hi => ?_, fun k hk => ?_⟩ dec
        · rcases Nat.lt_trichotomy i' pl with q | q | q
          · rw [r1 i (by omega), r1 i' q]
            exact l2 i i' h1 (by omega)
          · subst q
            rw [r1 i h1, r2]
            exact p1 i h1
          · rw [r3 i' q h2]
            rcases Nat.lt_trichotomy i pl with q2 | q2 | q2
            · rw [r1 i q2]
              exact l2 i (i' - 1) (by omega) (by omega)
            · subst q2
              rw [r2]
              exact p2 _ (by omega) (by omega)
            · rw [r3 i q2 (by omega)]
              exact l2 _ _ (by omega) (by omega)
        · rcases Nat.lt_trichotomy i pl with q | q | q
          · rw [r1 i q]
            obtain ⟨k, hk, e⟩ := l3 i (by omega)
            exact ⟨k, by omega, e⟩
          · subst q
            rw [r2]
            exact ⟨j, by omega, rfl⟩
          · rw [r3 i q hi]
            obtain ⟨k, hk, e⟩ := l3 (i - 1) (by omega)
            exact ⟨k, by omega, e⟩
        · rcases Nat.lt_or_ge k j with q | q
          · obtain ⟨i, hi, e⟩ := l4 k q
            rcases Nat.lt_or_ge i pl with q2 | q2
            · exact ⟨i, by omega, by rw [r1 i q2]; exact e⟩
            · refine ⟨i + 1, by omega, ?_⟩
              rw [r3 (i + 1) (by omega) (by omega)]
              exact e
          · have : k = j := by omega
            subst this
            exact ⟨pl, by omega, r2.symm⟩
  · funext k
    unfold updG
    split
    · rename_i e
      rw [e]
    · rfl
end LEV

/-! ===== columns, rows, aims: the calls that change the task ===== -/
theorem w_within {x y : Int32} {m : Int} (hm : 0 ≤ m ∧ m ≤ 2000) (hy : y = iZ m) {post : Int32 → Prop} (h1 : -m ≤ x.toInt → x.toInt ≤ m → post 1) (h0 : ¬ (-m ≤ x.toInt ∧ x.toInt ≤ m) → post 0) : wp_X6_within x y post := by
  subst hy
  unfold wp_X6_within
  have e : -iZ m = iZ (-m) := by
    show -(Int32.ofInt m) = Int32.ofInt (-m)
    exact (Int32.ofInt_neg m).symm
  rw [e]
  have a1 := iZ_toInt (n := m) (by omega) (by omega)
  have a2 := iZ_toInt (n := -m) (by omega) (by omega)
  simp only [Int32.lt_iff_toInt_lt, a1, a2]
  exact ⟨fun h => h0 (by omega), fun h => ⟨fun h2 => h0 (by omega), fun h2 => h1 (by omega) (by omega)⟩⟩
theorem z_loop {n : Nat} {ix : Nat → Nat} {F : ((Nat → Int32) → Prop) → (Int32 → (Nat → Int32) → Prop) → Int32 → (Nat → Int32) → Prop} {kx : (Nat → Int32) → Prop} {f : Nat → Int32} (hn : n < 2147483647)
    (hF : ∀ (w : Int32 → (Nat → Int32) → Prop) (j : Nat) (g : Nat → Int32), j ≤ n → (j = n → kx g) → (j < n → w (nI (j + 1)) (upd g (ix j) 0)) → F kx w (nI j) g)
    (h : ∀ g : Nat → Int32, (∀ j, j < n → g (ix j) = 0) → (∀ k, (∀ j, j < n → k ≠ ix j) → g k = f k) → kx g) : Lq2 (F kx) (0 : Int32) f := by
  refine Lq2_inv (fun i g => ∃ j : Nat, j ≤ n ∧ i = nI j ∧ (∀ i, i < j → g (ix i) = 0) ∧ ∀ k, (∀ i, i < j → k ≠ ix i) → g k = f k) (fun i _ => n - i.toNatClampNeg) ?_ _ _ ⟨0, Nat.zero_le _, rfl, fun i hi => absurd hi (Nat.not_lt_zero _), fun k _ => rfl⟩
  rintro i g ⟨j, hj, rfl, g1, g2⟩ w hw
  refine hF w j g hj (fun e => ?_) (fun hjn => ?_)
  · subst e
    exact h g g1 g2
  · refine hw _ _ ⟨j + 1, by omega, rfl, fun i hi => ?_, fun k hk => ?_⟩ ?_
    · by_cases e : ix i = ix j
      · rw [e, upd_s]
      · rw [upd_n e]
        have : i ≠ j := fun z => e (by rw [z])
        exact g1 i (by omega)
    · rw [upd_n (hk j (by omega))]
      exact g2 k (fun i hi => hk i (by omega))
    · rw [cl_nI (by omega), cl_nI (by omega)]
      omega
theorem w_jfill {f : Nat → Int32} {post : (Nat → Int32) → Prop} (h : ∀ g : Nat → Int32, (∀ j, j < 8 → g j = 0) → post g) : wp_J7_fill_53178 f (0 : Int32) post := by
  unfold wp_J7_fill_53178
  refine z_loop (n := 8) (ix := fun j => j) (by omega) (fun w j g hj k1 k2 => ?_) (fun g g1 _ => h g g1)
  unfold b_J7_fill_53178_5
  refine ⟨fun hle => k1 ?_, fun hlt => ?_⟩
  · have := (nI_leI (a := 8) (by omega) (by omega)).mp hle
    omega
  · have hjn := nI_leN (a := 8) (by omega) (by omega) hlt
    refine ⟨vp_in_nI (by omega) (by decide), ?_⟩
    rw [nI_1, cl_nI (by omega)]
    exact k2 hjn
theorem updG_s {α : Type} {M : Nat → α} {i : Nat} {r : α} : updG M i r i = r := if_pos rfl
theorem updG_n {α : Type} {M : Nat → α} {i k : Nat} {r : α} (h : k ≠ i) : updG M i r k = M k := if_neg h
theorem iZ_w {x y : Int32} (h : x.toInt ≤ y.toInt) (h1 : -20 ≤ x.toInt) (h2 : y.toInt ≤ 20) : y - x + 1 = nI (y.toInt - x.toInt + 1).toNat := by
  rw [← iZ_of y, ← iZ_of x, show (1 : Int32) = iZ 1 from rfl, iZ_sub, iZ_add, ← iZ_nat, iZ_of, iZ_of]
  rw [Int.toNat_of_nonneg (by omega)]
section SETUP
variable {nc nr na : Nat} {low high right : Nat → Int32} {terms : Nat → Nat → Int32} {fr to : Nat → Int32} {costs : Nat → Nat → Int32} {lows highs rights termsM costsM froms tos : Nat → Int32} {worked hc csize fsize gone met frontM goneM hcM picksM plansM : Int32}
theorem m_column (hs : SU nc nr na low high right terms fr to costs lows highs rights termsM costsM froms tos) {x1 x2 : Int32}
    {K : Int32 → Int32 → Int32 → Int32 → Int32 → Int32 → Int32 → Int32 → (Nat → Int32) → (Nat → Int32) → Int32 → Int32 → Int32 → (Nat → Int32) → Int32 → Int32 → Int32 → (Nat → Int32) → (Nat → Int32) → Int32 → Int32 → (Nat → Int32) → Prop}
    (hK0 : ∀ r, K r worked hc csize fsize gone met (nI nc) high low (nI (wP lows highs nc)) r (nI nc) costsM frontM goneM hcM highs lows picksM plansM termsM)
    (hK1 : ∀ low' high' lows' highs' costsM' termsM' : Nat → Int32, SU (nc + 1) nr na low' high' right terms fr to costs lows' highs' rights termsM' costsM' froms tos → K (nI nc) 0 0 0 0 0 0 (nI (nc + 1)) high' low' (nI (wP lows' highs' (nc + 1))) (nI nc) (nI (nc + 1)) costsM' 0 0 0 highs' lows' 0 0 termsM') :
    wp_X6_column worked hc csize fsize gone met (nI nc) high low (nI (wP lows highs nc)) x1 x2 (fun r a1 a2 a3 a4 a5 a6 a7 a8 a9 a10 => wp_X7_column (nI nc) costsM frontM goneM hcM highs lows picksM plansM termsM x1 x2 (fun r' b1 b2 b3 b4 b5 b6 b7 b8 b9 b10 => K r a1 a2 a3 a4 a5 a6 a7 a8 a9 a10 r' b1 b2 b3 b4 b5 b6 b7 b8 b9 b10)) := by
  obtain ⟨s1, s2, s3, s4, s5, s6, s7, s8, s9, s10, s11, s12⟩ := hs
  have mout : ∀ {k : Int32 → Int32 → (Nat → Int32) → Int32 → Int32 → Int32 → (Nat → Int32) → (Nat → Int32) → Int32 → Int32 → (Nat → Int32) → Prop}, ¬ (-20 ≤ x1.toInt ∧ x1.toInt ≤ x2.toInt ∧ x2.toInt ≤ 20) → k (-1000001) (nI nc) costsM frontM goneM hcM highs lows picksM plansM termsM → wp_X7_column (nI nc) costsM frontM goneM hcM highs lows picksM plansM termsM x1 x2 k := fun {k} hn hk => by
    unfold wp_X7_column
    refine w_inI (a := -20) (b := 20) (fun q1 q2 => ⟨fun z => absurd z (by decide), fun _ => ?_⟩) (fun _ => ⟨fun _ => hk, fun z => absurd rfl z⟩)
    refine w_inI (a := x1) (b := 20) (fun q3 q4 => absurd ⟨q1, q3, q4⟩ hn) (fun _ => ⟨fun _ => hk, fun z => absurd rfl z⟩)
  unfold wp_X6_column
  refine w_within (m := 20) (by omega) rfl (fun p1 p2 => ⟨fun z => absurd z (by decide), fun _ => ?_⟩) (fun p => ⟨fun _ => ?_, fun z => absurd rfl z⟩)
  · refine w_within (m := 20) (by omega) rfl (fun p3 p4 => ⟨fun z => absurd z (by decide), fun _ => ⟨fun p5 => ?_, fun p5 => ?_⟩⟩) (fun p => ⟨fun _ => ?_, fun z => absurd rfl z⟩)
    · rw [Int32.le_iff_toInt_le] at p5
      have ew := iZ_w p5 p1 p4
      have hwd : 1 ≤ (x2.toInt - x1.toInt + 1).toNat ∧ (x2.toInt - x1.toInt + 1).toNat ≤ 41 := by omega
      have eW : wP (upd lows nc x1) (upd highs nc x2) (nc + 1) = wP lows highs nc * (x2.toInt - x1.toInt + 1).toNat := by
        show wP (upd lows nc x1) (upd highs nc x2) nc * wN (upd lows nc x1) (upd highs nc x2) nc = _
        rw [wP_congr nc (lo' := lows) (hi' := highs) (fun c hc => ⟨upd_n (by omega), upd_n (by omega)⟩)]
        unfold wN
        rw [upd_s, upd_s]
      generalize (x2.toInt - x1.toInt + 1).toNat = wd at ew hwd eW
      have hpr : wP lows highs nc * wd ≤ 2000 * 41 := Nat.mul_le_mul s5 hwd.2
      rw [ew, pk_mul]
      have mid : ∀ {k : Int32 → Int32 → (Nat → Int32) → Int32 → Int32 → Int32 → (Nat → Int32) → (Nat → Int32) → Int32 → Int32 → (Nat → Int32) → Prop}, (nc = 8 ∨ 2000 < wP lows highs nc * wd → k (-1000003) (nI nc) costsM frontM goneM hcM highs lows picksM plansM termsM) → (nc < 8 → wP lows highs nc * wd ≤ 2000 → ∀ costsM' termsM' : Nat → Int32, (∀ r, r < 8 → termsM' (8 * r + nc) = 0) → (∀ k, (∀ r, r < 8 → k ≠ 8 * r + nc) → termsM' k = termsM k) → (∀ r, r < 4 → costsM' (8 * r + nc) = 0) → (∀ k, (∀ r, r < 4 → k ≠ 8 * r + nc) → costsM' k = costsM k) → k (nI nc) (nI (nc + 1)) costsM' 0 0 0 (upd highs nc x2) (upd lows nc x1) 0 0 termsM') → wp_X7_column (nI nc) costsM frontM goneM hcM highs lows picksM plansM termsM x1 x2 k := fun {k} hk0 hk1 => by
        unfold wp_X7_column
        refine w_inI (a := -20) (b := 20) (fun _ _ => ⟨fun z => absurd z (by decide), fun _ => ?_⟩) (fun z => absurd ⟨p1, p2⟩ z)
        refine w_inI (a := x1) (b := 20) (fun _ _ => ⟨fun z => absurd z (by decide), fun _ => ⟨fun z => ?_, fun z => ?_⟩⟩) (fun z => absurd ⟨p5, p4⟩ z)
        · exact hk0 (Or.inl (nI_inj (b := 8) (by omega) (by omega) z))
        · have hn8 : nc < 8 := by
            rcases Nat.lt_or_ge nc 8 with q | q
            · exact q
            · have : nc = 8 := by omega
              subst this
              exact absurd rfl z
          refine w_points s1 s4 ?_
          rw [ew, pk_mul]
          refine ⟨fun q => ?_, fun q => hk0 (Or.inr (nI_leN (by omega) (b := 2000) (by omega) q))⟩
          have q' := (nI_leI (b := 2000) (by omega) (by omega)).mp q
          have hin : vp_in (nI nc) 8 := vp_in_nI (by omega) (by decide)
          refine ⟨hin, hin, ?_⟩
          refine z_loop (n := 8) (ix := fun j => 8 * j + nc) (by omega) (fun w j g hj k1 k2 => ?_) (fun tm t1 t2 => ?_)
          · unfold b_X7_column_80
            rw [ix8]
            refine ⟨fun hle => k1 ?_, fun hlt => ?_⟩
            · have := (nI_leI (a := 8) (by omega) (by omega)).mp hle
              omega
            · have hjn := nI_leN (a := 8) (by omega) (by omega) hlt
              refine ⟨vp_in_nI (by omega) (by decide), ?_⟩
              rw [nI_1, cl_nI (by omega)]
              exact k2 hjn
          · refine z_loop (n := 4) (ix := fun j => 8 * j + nc) (by omega) (fun w j g hj k1 k2 => ?_) (fun cm c1 c2 => ?_)
            · unfold b_X7_column_109
              rw [ix8]
              refine ⟨fun hle => k1 ?_, fun hlt => ?_⟩
              · have := (nI_leI (a := 4) (by omega) (by omega)).mp hle
                omega
              · have hjn := nI_leN (a := 4) (by omega) (by omega) hlt
                refine ⟨vp_in_nI (by omega) (by decide), ?_⟩
                rw [nI_1, cl_nI (by omega)]
                exact k2 hjn
            · unfold wp_X7_anew
              rw [nI_1, nI_pred, cl_nI (by omega)]
              exact hk1 hn8 q' cm tm t1 t2 c1 c2
      refine ⟨fun z => mid (fun _ => hK0 _) (fun h8 _ => absurd (nI_inj (b := 8) (by omega) (by omega) z) (by omega)), fun z => ⟨fun q => ?_, fun q => ?_⟩⟩
      · have hn8 : nc < 8 := by
          rcases Nat.lt_or_ge nc 8 with q | q
          · exact q
          · have : nc = 8 := by omega
            subst this
            exact absurd rfl z
        have q' := (nI_leI (b := 2000) (by omega) (by omega)).mp q
        unfold wp_X6_beginAnew wp_X2_end wp_X0_forget wp_X5_addColumn
        have hin : vp_in (nI nc) 8 := vp_in_nI (by omega) (by decide)
        refine ⟨hin, hin, mid (fun y => absurd y (by omega)) (fun _ _ cm tm t1 t2 c1 c2 => ?_)⟩
        rw [ew, pk_mul, nI_1, cl_nI (by omega), ← eW]
        refine hK1 _ _ _ _ cm tm ⟨by omega, s2, s3, ?_, by rw [eW]; exact q', ?_, s7, ?_, ?_, s10, ?_, ?_⟩
        · intro c hc
          by_cases e : c = nc
          · subst e
            rw [upd_s, upd_s]
            exact ⟨p1, p5, p4⟩
          · rw [upd_n e, upd_n e]
            exact s4 c (by omega)
        · intro c hc
          by_cases e : c = nc
          · subst e
            rw [upd_s, upd_s, upd_s, upd_s]
            exact ⟨rfl, rfl⟩
          · rw [upd_n e, upd_n e, upd_n e, upd_n e]
            exact s6 c (by omega)
        · intro r hr c hc
          by_cases e : c = nc
          · subst e
            rw [t1 r (by omega)]
            exact s11 r c (by omega) (by omega) (by omega)
          · rw [t2 _ (fun r' _ => by omega)]
            exact s8 r hr c (by omega)
        · intro r hr c hc
          by_cases e : c = nc
          · subst e
            rw [c1 r (by omega)]
            exact s12 r c (by omega) (by omega) (by omega)
          · rw [c2 _ (fun r' _ => by omega)]
            exact s9 r hr c (by omega)
        · exact fun r c h1 h2 h3 => s11 r c h1 h2 (by omega)
        · exact fun r c h1 h2 h3 => s12 r c h1 h2 (by omega)
      · have q' := nI_leN (by omega) (b := 2000) (by omega) q
        exact mid (fun _ => hK0 _) (fun _ q2 => absurd q2 (by omega))
    · rw [Int32.le_iff_toInt_le] at p5
      exact mout (by omega) (hK0 _)
    · exact mout (by omega) (hK0 _)
  · exact mout (by omega) (hK0 _)
theorem m_row (hs : SU nc nr na low high right terms fr to costs lows highs rights termsM costsM froms tos) {x1 : Int32}
    {K : Int32 → Int32 → Int32 → Int32 → Int32 → Int32 → Int32 → (Nat → Int32) → Int32 → Int32 → Int32 → Int32 → Int32 → Int32 → Int32 → (Nat → Int32) → Int32 → (Nat → Int32) → Prop}
    (hK0 : ∀ r, K r worked hc csize fsize gone met right (nI nr) r frontM goneM hcM picksM plansM rights (nI nr) termsM)
    (hK1 : ∀ right' rights' termsM' : Nat → Int32, SU nc (nr + 1) na low high right' terms fr to costs lows highs rights' termsM' costsM froms tos → K (nI nr) 0 0 0 0 0 0 right' (nI (nr + 1)) (nI nr) 0 0 0 0 0 rights' (nI (nr + 1)) termsM') :
    wp_X6_row worked hc csize fsize gone met right (nI nr) x1 (fun r a1 a2 a3 a4 a5 a6 a7 a8 => wp_X7_row frontM goneM hcM picksM plansM rights (nI nr) termsM x1 (fun r' b1 b2 b3 b4 b5 b6 b7 b8 => K r a1 a2 a3 a4 a5 a6 a7 a8 r' b1 b2 b3 b4 b5 b6 b7 b8)) := by
  obtain ⟨s1, s2, s3, s4, s5, s6, s7, s8, s9, s10, s11, s12⟩ := hs
  unfold wp_X6_row wp_X7_row
  refine w_within (m := 1000) (by omega) rfl (fun p1 p2 => ⟨fun z => absurd z (by decide), fun _ => ⟨fun z => ?_, fun z => ?_⟩⟩) (fun p => ⟨fun _ => ?_, fun z => absurd rfl z⟩)
  · exact w_inI (a := -1000) (b := 1000) (fun _ _ => ⟨fun z => absurd z (by decide), fun _ => ⟨fun _ => hK0 _, fun y => absurd z y⟩⟩) (fun y => absurd ⟨p1, p2⟩ y)
  · have hn8 : nr < 8 := by
      rcases Nat.lt_or_ge nr 8 with q | q
      · exact q
      · have : nr = 8 := by omega
        subst this
        exact absurd rfl z
    have hin : vp_in (nI nr) 8 := vp_in_nI (by omega) (by decide)
    unfold wp_X6_beginAnew wp_X2_end wp_X0_forget wp_X5_addRow
    refine ⟨hin, w_inI (a := -1000) (b := 1000) (fun _ _ => ⟨fun z => absurd z (by decide), fun _ => ⟨fun y => absurd y z, fun _ => ⟨hin, ?_⟩⟩⟩) (fun y => absurd ⟨p1, p2⟩ y)⟩
    refine z_loop (n := 8) (ix := fun j => 8 * nr + j) (by omega) (fun w j g hj k1 k2 => ?_) (fun tm t1 t2 => ?_)
    · unfold b_X7_row_41
      rw [ix8]
      refine ⟨fun hle => k1 ?_, fun hlt => ?_⟩
      · have := (nI_leI (a := 8) (by omega) (by omega)).mp hle
        omega
      · have hjn := nI_leN (a := 8) (by omega) (by omega) hlt
        refine ⟨vp_in_nI (by omega) (by decide), ?_⟩
        rw [nI_1, cl_nI (by omega)]
        exact k2 hjn
    · unfold wp_X7_anew
      rw [nI_1, nI_pred, cl_nI (by omega)]
      refine hK1 _ _ tm ⟨s1, by omega, s3, s4, s5, s6, ?_, ?_, s9, s10, ?_, s12⟩
      · intro r hr
        by_cases e : r = nr
        · subst e
          rw [upd_s, upd_s]
        · rw [upd_n e, upd_n e]
          exact s7 r (by omega)
      · intro r hr c hc
        by_cases e : r = nr
        · subst e
          rw [t1 c (by omega)]
          exact s11 r c (by omega) (by omega) (by omega)
        · rw [t2 _ (fun j hj => by omega)]
          exact s8 r (by omega) c hc
      · exact fun r c h1 h2 h3 => s11 r c h1 h2 (by omega)
  · exact w_inI (a := -1000) (b := 1000) (fun p1 p2 => absurd ⟨p1, p2⟩ p) (fun _ => ⟨fun _ => hK0 _, fun z => absurd rfl z⟩)
theorem m_term (hs : SU nc nr na low high right terms fr to costs lows highs rights termsM costsM froms tos) {x1 x2 x3 : Int32}
    {K : Int32 → Int32 → Int32 → Int32 → Int32 → Int32 → Int32 → (Nat → Nat → Int32) → Int32 → Int32 → Int32 → Int32 → Int32 → Int32 → (Nat → Int32) → Prop}
    (hK0 : ∀ r, K r worked hc csize fsize gone met terms r frontM goneM hcM picksM plansM termsM)
    (hK1 : ∀ (r : Int32) (terms' : Nat → Nat → Int32) (termsM' : Nat → Int32), SU nc nr na low high right terms' fr to costs lows highs rights termsM' costsM froms tos → K r 0 0 0 0 0 0 terms' r 0 0 0 0 0 termsM') :
    wp_X6_term worked hc csize fsize gone met (nI nc) (nI nr) terms x1 x2 x3 (fun r a1 a2 a3 a4 a5 a6 a7 => wp_X7_term (nI nc) frontM goneM hcM picksM plansM (nI nr) termsM x1 x2 x3 (fun r' b1 b2 b3 b4 b5 b6 => K r a1 a2 a3 a4 a5 a6 a7 r' b1 b2 b3 b4 b5 b6)) := by
  obtain ⟨s1, s2, s3, s4, s5, s6, s7, s8, s9, s10, s11, s12⟩ := hs
  unfold wp_X6_term wp_X7_term
  refine w_amongN (by omega) (fun i hi ei => ⟨fun z => absurd z (by decide), fun _ => ?_⟩) (fun hi => ⟨fun _ => ?_, fun z => absurd rfl z⟩)
  · subst ei
    refine w_amongN (by omega) (fun j hj ej => ⟨fun z => absurd z (by decide), fun _ => ?_⟩) (fun hj => ⟨fun _ => ?_, fun z => absurd rfl z⟩)
    · subst ej
      refine w_within (m := 9) (by omega) rfl (fun p1 p2 => ⟨fun z => absurd z (by decide), fun _ => ?_⟩) (fun p => ⟨fun _ => ?_, fun z => absurd rfl z⟩)
      · have hi8 : vp_in (nI i) 8 := vp_in_nI (by omega) (by decide)
        have hj8 : vp_in (nI j) 8 := vp_in_nI (by omega) (by decide)
        unfold wp_X6_beginAnew wp_X2_end wp_X0_forget
        refine ⟨hi8, hj8, hi8, hj8, ?_⟩
        refine w_isRow (by omega) (fun _ _ _ => ⟨fun z => absurd z (by decide), fun _ => ?_⟩) (fun z => absurd rfl (z i hi))
        refine w_isColumn (by omega) (fun _ _ _ => ⟨fun z => absurd z (by decide), fun _ => ?_⟩) (fun z => absurd rfl (z j hj))
        refine w_inI (a := -9) (b := 9) (fun _ _ => ⟨fun z => absurd z (by decide), fun _ => ?_⟩) (fun y => absurd ⟨p1, p2⟩ y)
        rw [ix8]
        have hx : vp_in (nI (8 * i + j)) 64 := vp_in_nI (by omega) (by decide)
        refine ⟨hx, hx, ?_⟩
        unfold wp_X7_anew
        rw [cl_nI (by omega), cl_nI (by omega), cl_nI (by omega), s8 i hi j hj]
        refine hK1 _ _ _ ⟨s1, s2, s3, s4, s5, s6, s7, ?_, s9, s10, ?_, s12⟩
        · intro r hr c hc
          by_cases e : r = i
          · subst e
            rw [updG_s]
            by_cases e2 : c = j
            · subst e2
              rw [upd_s, upd_s]
            · rw [upd_n e2, upd_n (by omega)]
              exact s8 r hr c hc
          · rw [updG_n e, upd_n (by omega)]
            exact s8 r hr c hc
        · intro r c h1 h2 h3
          by_cases e : r = i
          · subst e
            rw [updG_s, upd_n (by omega)]
            exact s11 r c h1 h2 h3
          · rw [updG_n e]
            exact s11 r c h1 h2 h3
      · refine w_isRow (by omega) (fun _ _ _ => ⟨fun z => absurd z (by decide), fun _ => ?_⟩) (fun z => absurd rfl (z i hi))
        refine w_isColumn (by omega) (fun _ _ _ => ⟨fun z => absurd z (by decide), fun _ => ?_⟩) (fun z => absurd rfl (z j hj))
        exact w_inI (a := -9) (b := 9) (fun p1 p2 => absurd ⟨p1, p2⟩ p) (fun _ => ⟨fun _ => hK0 _, fun z => absurd rfl z⟩)
    · refine w_isRow (by omega) (fun _ _ _ => ⟨fun z => absurd z (by decide), fun _ => ?_⟩) (fun z => absurd rfl (z i hi))
      exact w_isColumn (by omega) (fun j h e => absurd e (hj j h)) (fun z => ⟨fun _ => hK0 _, fun z => absurd rfl z⟩)
  · exact w_isRow (by omega) (fun j h e => absurd e (hi j h)) (fun z => ⟨fun _ => hK0 _, fun z => absurd rfl z⟩)
theorem m_cost (hs : SU nc nr na low high right terms fr to costs lows highs rights termsM costsM froms tos) {x1 x2 x3 : Int32}
    {K : Int32 → Int32 → Int32 → Int32 → Int32 → Int32 → Int32 → (Nat → Nat → Int32) → Int32 → (Nat → Int32) → Int32 → Int32 → Int32 → Int32 → Int32 → Prop}
    (hK0 : ∀ r, K r worked hc csize fsize gone met costs r costsM frontM goneM hcM picksM plansM)
    (hK1 : ∀ (r : Int32) (costs' : Nat → Nat → Int32) (costsM' : Nat → Int32), SU nc nr na low high right terms fr to costs' lows highs rights termsM costsM' froms tos → K r 0 0 0 0 0 0 costs' r costsM' 0 0 0 0 0) :
    wp_X6_cost worked hc csize fsize gone met (nI na) (nI nc) costs x1 x2 x3 (fun r a1 a2 a3 a4 a5 a6 a7 => wp_X7_cost (nI na) (nI nc) costsM frontM goneM hcM picksM plansM x1 x2 x3 (fun r' b1 b2 b3 b4 b5 b6 => K r a1 a2 a3 a4 a5 a6 a7 r' b1 b2 b3 b4 b5 b6)) := by
  obtain ⟨s1, s2, s3, s4, s5, s6, s7, s8, s9, s10, s11, s12⟩ := hs
  unfold wp_X6_cost wp_X7_cost
  refine w_amongN (by omega) (fun i hi ei => ⟨fun z => absurd z (by decide), fun _ => ?_⟩) (fun hi => ⟨fun _ => ?_, fun z => absurd rfl z⟩)
  · subst ei
    refine w_amongN (by omega) (fun j hj ej => ⟨fun z => absurd z (by decide), fun _ => ?_⟩) (fun hj => ⟨fun _ => ?_, fun z => absurd rfl z⟩)
    · subst ej
      refine w_within (m := 9) (by omega) rfl (fun p1 p2 => ⟨fun z => absurd z (by decide), fun _ => ?_⟩) (fun p => ⟨fun _ => ?_, fun z => absurd rfl z⟩)
      · have hi4 : vp_in (nI i) 4 := vp_in_nI (by omega) (by decide)
        have hj8 : vp_in (nI j) 8 := vp_in_nI (by omega) (by decide)
        unfold wp_X6_beginAnew wp_X2_end wp_X0_forget
        refine ⟨hi4, hj8, hi4, hj8, ?_⟩
        refine w_isAim (by omega) (fun _ _ _ => ⟨fun z => absurd z (by decide), fun _ => ?_⟩) (fun z => absurd rfl (z i hi))
        refine w_isColumn (by omega) (fun _ _ _ => ⟨fun z => absurd z (by decide), fun _ => ?_⟩) (fun z => absurd rfl (z j hj))
        refine w_inI (a := -9) (b := 9) (fun _ _ => ⟨fun z => absurd z (by decide), fun _ => ?_⟩) (fun y => absurd ⟨p1, p2⟩ y)
        rw [ix8]
        have hx : vp_in (nI (8 * i + j)) 32 := vp_in_nI (by omega) (by decide)
        refine ⟨hx, hx, ?_⟩
        unfold wp_X7_anew
        rw [cl_nI (by omega), cl_nI (by omega), cl_nI (by omega), s9 i hi j hj]
        refine hK1 _ _ _ ⟨s1, s2, s3, s4, s5, s6, s7, s8, ?_, s10, s11, ?_⟩
        · intro r hr c hc
          by_cases e : r = i
          · subst e
            rw [updG_s]
            by_cases e2 : c = j
            · subst e2
              rw [upd_s, upd_s]
            · rw [upd_n e2, upd_n (by omega)]
              exact s9 r hr c hc
          · rw [updG_n e, upd_n (by omega)]
            exact s9 r hr c hc
        · intro r c h1 h2 h3
          by_cases e : r = i
          · subst e
            rw [updG_s, upd_n (by omega)]
            exact s12 r c h1 h2 h3
          · rw [updG_n e]
            exact s12 r c h1 h2 h3
      · refine w_isAim (by omega) (fun _ _ _ => ⟨fun z => absurd z (by decide), fun _ => ?_⟩) (fun z => absurd rfl (z i hi))
        refine w_isColumn (by omega) (fun _ _ _ => ⟨fun z => absurd z (by decide), fun _ => ?_⟩) (fun z => absurd rfl (z j hj))
        exact w_inI (a := -9) (b := 9) (fun p1 p2 => absurd ⟨p1, p2⟩ p) (fun _ => ⟨fun _ => hK0 _, fun z => absurd rfl z⟩)
    · refine w_isAim (by omega) (fun _ _ _ => ⟨fun z => absurd z (by decide), fun _ => ?_⟩) (fun z => absurd rfl (z i hi))
      exact w_isColumn (by omega) (fun j h e => absurd e (hj j h)) (fun z => ⟨fun _ => hK0 _, fun z => absurd rfl z⟩)
  · exact w_isAim (by omega) (fun j h e => absurd e (hi j h)) (fun z => ⟨fun _ => hK0 _, fun z => absurd rfl z⟩)
theorem m_aim (hs : SU nc nr na low high right terms fr to costs lows highs rights termsM costsM froms tos)
    {K : Int32 → Int32 → Int32 → Int32 → Int32 → Int32 → Int32 → Int32 → (Nat → Int32) → (Nat → Int32) → Int32 → Int32 → (Nat → Int32) → (Nat → Int32) → Int32 → Int32 → Int32 → Int32 → Int32 → (Nat → Int32) → Prop}
    (hK0 : ∀ r, K r worked hc csize fsize gone met (nI na) fr to r (nI na) costsM froms frontM goneM hcM picksM plansM tos)
    (hK1 : ∀ fr' to' costsM' froms' tos' : Nat → Int32, SU nc nr (na + 1) low high right terms fr' to' costs lows highs rights termsM costsM' froms' tos' → K (nI na) 0 0 0 0 0 0 (nI (na + 1)) fr' to' (nI na) (nI (na + 1)) costsM' froms' 0 0 0 0 0 tos') :
    wp_X6_aim worked hc csize fsize gone met (nI na) fr to (fun r a1 a2 a3 a4 a5 a6 a7 a8 a9 => wp_X7_aim (nI na) costsM froms frontM goneM hcM picksM plansM tos (fun r' b1 b2 b3 b4 b5 b6 b7 b8 b9 => K r a1 a2 a3 a4 a5 a6 a7 a8 a9 r' b1 b2 b3 b4 b5 b6 b7 b8 b9)) := by
  obtain ⟨s1, s2, s3, s4, s5, s6, s7, s8, s9, s10, s11, s12⟩ := hs
  unfold wp_X6_aim wp_X7_aim
  refine ⟨fun z => ⟨fun _ => hK0 _, fun y => absurd z y⟩, fun z => ?_⟩
  have hn4 : na < 4 := by
    rcases Nat.lt_or_ge na 4 with q | q
    · exact q
    · have : na = 4 := by omega
      subst this
      exact absurd rfl z
  have hin : vp_in (nI na) 4 := vp_in_nI (by omega) (by decide)
  unfold wp_X6_beginAnew wp_X2_end wp_X0_forget wp_X5_addAim
  refine ⟨hin, hin, fun y => absurd y z, fun _ => ⟨hin, hin, ?_⟩⟩
  refine z_loop (n := 8) (ix := fun j => 8 * na + j) (by omega) (fun w j g hj k1 k2 => ?_) (fun tm t1 t2 => ?_)
  · unfold b_X7_aim_37
    rw [ix8]
    refine ⟨fun hle => k1 ?_, fun hlt => ?_⟩
    · have := (nI_leI (a := 8) (by omega) (by omega)).mp hle
      omega
    · have hjn := nI_leN (a := 8) (by omega) (by omega) hlt
      refine ⟨vp_in_nI (by omega) (by decide), ?_⟩
      rw [nI_1, cl_nI (by omega)]
      exact k2 hjn
  · unfold wp_X7_anew
    rw [nI_1, nI_pred, cl_nI (by omega)]
    refine hK1 _ _ tm _ _ ⟨s1, s2, by omega, s4, s5, s6, s7, s8, ?_, ?_, s11, ?_⟩
    · intro r hr c hc
      by_cases e : r = na
      · subst e
        rw [t1 c (by omega)]
        exact s12 r c (by omega) (by omega) (by omega)
      · rw [t2 _ (fun j hj => by omega)]
        exact s9 r (by omega) c hc
    · intro r hr
      by_cases e : r = na
      · subst e
        rw [upd_s, upd_s, upd_s, upd_s]
        exact ⟨rfl, rfl, by decide, by decide⟩
      · rw [upd_n e, upd_n e, upd_n e, upd_n e]
        exact s10 r (by omega)
    · exact fun r c h1 h2 h3 => s12 r c h1 h2 (by omega)
theorem m_part (hs : SU nc nr na low high right terms fr to costs lows highs rights termsM costsM froms tos) {x1 x2 x3 : Int32}
    {K : Int32 → Int32 → Int32 → Int32 → Int32 → Int32 → Int32 → (Nat → Int32) → (Nat → Int32) → Int32 → (Nat → Int32) → Int32 → Int32 → Int32 → Int32 → Int32 → (Nat → Int32) → Prop}
    (hK0 : ∀ r, K r worked hc csize fsize gone met fr to r froms frontM goneM hcM picksM plansM tos)
    (hK1 : ∀ (fr' to' froms' tos' : Nat → Int32), SU nc nr na low high right terms fr' to' costs lows highs rights termsM costsM froms' tos' → K 1 0 0 0 0 0 0 fr' to' 1 froms' 0 0 0 0 0 tos') :
    wp_X6_part worked hc csize fsize gone met (nI na) fr to x1 x2 x3 (fun r a1 a2 a3 a4 a5 a6 a7 a8 => wp_X7_part (nI na) froms frontM goneM hcM picksM plansM tos x1 x2 x3 (fun r' b1 b2 b3 b4 b5 b6 b7 => K r a1 a2 a3 a4 a5 a6 a7 a8 r' b1 b2 b3 b4 b5 b6 b7)) := by
  obtain ⟨s1, s2, s3, s4, s5, s6, s7, s8, s9, s10, s11, s12⟩ := hs
  unfold wp_X6_part wp_X7_part
  refine w_amongN (by omega) (fun i hi ei => ⟨fun z => absurd z (by decide), fun _ => ?_⟩) (fun hi => ⟨fun _ => ?_, fun z => absurd rfl z⟩)
  · subst ei
    refine w_within (m := 2000) (by omega) rfl (fun p1 p2 => ⟨fun z => absurd z (by decide), fun _ => ?_⟩) (fun p => ⟨fun _ => ?_, fun z => absurd rfl z⟩)
    · refine w_within (m := 2000) (by omega) rfl (fun p3 p4 => ⟨fun z => absurd z (by decide), fun _ => ⟨fun p5 => ?_, fun p5 => ?_⟩⟩) (fun p => ⟨fun _ => ?_, fun z => absurd rfl z⟩)
      · rw [Int32.le_iff_toInt_le] at p5
        have hi4 : vp_in (nI i) 4 := vp_in_nI (by omega) (by decide)
        unfold wp_X6_beginAnew wp_X2_end wp_X0_forget
        refine ⟨hi4, hi4, ?_⟩
        refine w_isAim (by omega) (fun _ _ _ => ⟨fun z => absurd z (by decide), fun _ => ?_⟩) (fun z => absurd rfl (z i hi))
        refine w_inI (a := -2000) (b := 2000) (fun _ _ => ⟨fun z => absurd z (by decide), fun _ => ?_⟩) (fun y => absurd ⟨p1, p2⟩ y)
        refine w_inI (a := x2) (b := 2000) (fun _ _ => ⟨fun z => absurd z (by decide), fun _ => ⟨hi4, hi4, ?_⟩⟩) (fun y => absurd ⟨p5, p4⟩ y)
        unfold wp_X7_anew
        rw [cl_nI (by omega)]
        refine hK1 _ _ _ _ ⟨s1, s2, s3, s4, s5, s6, s7, s8, s9, ?_, s11, s12⟩
        intro r hr
        by_cases e : r = i
        · subst e
          rw [upd_s, upd_s, upd_s, upd_s]
          exact ⟨rfl, rfl, p1, p4⟩
        · rw [upd_n e, upd_n e, upd_n e, upd_n e]
          exact s10 r hr
      · rw [Int32.le_iff_toInt_le] at p5
        refine w_isAim (by omega) (fun _ _ _ => ⟨fun z => absurd z (by decide), fun _ => ?_⟩) (fun z => absurd rfl (z i hi))
        refine w_inI (a := -2000) (b := 2000) (fun _ _ => ⟨fun z => absurd z (by decide), fun _ => ?_⟩) (fun y => absurd ⟨p1, p2⟩ y)
        exact w_inI (a := x2) (b := 2000) (fun y _ => absurd y p5) (fun _ => ⟨fun _ => hK0 _, fun z => absurd rfl z⟩)
      · refine w_isAim (by omega) (fun _ _ _ => ⟨fun z => absurd z (by decide), fun _ => ?_⟩) (fun z => absurd rfl (z i hi))
        refine w_inI (a := -2000) (b := 2000) (fun _ _ => ⟨fun z => absurd z (by decide), fun _ => ?_⟩) (fun y => absurd ⟨p1, p2⟩ y)
        refine w_inI (a := x2) (b := 2000) (fun y1 y2 => ?_) (fun _ => ⟨fun _ => hK0 _, fun z => absurd rfl z⟩)
        have y3 : x3.toInt ≤ 2000 := y2
        omega
    · refine w_isAim (by omega) (fun _ _ _ => ⟨fun z => absurd z (by decide), fun _ => ?_⟩) (fun z => absurd rfl (z i hi))
      exact w_inI (a := -2000) (b := 2000) (fun y1 y2 => absurd ⟨y1, y2⟩ p) (fun _ => ⟨fun _ => hK0 _, fun z => absurd rfl z⟩)
  · exact w_isAim (by omega) (fun j h e => absurd e (hi j h)) (fun z => ⟨fun _ => hK0 _, fun z => absurd rfl z⟩)
theorem m_clear (hs : SU nc nr na low high right terms fr to costs lows highs rights termsM costsM froms tos) {P : Int32}
    {K : Int32 → Int32 → Int32 → Int32 → Int32 → Int32 → Int32 → Int32 → Int32 → (Nat → Nat → Int32) → Int32 → Int32 → (Nat → Nat → Int32) → Int32 → Int32 → Int32 → Int32 → Int32 → Int32 → Int32 → Int32 → Int32 → Prop}
    (hK1 : ∀ (costs' terms' : Nat → Nat → Int32), SU 0 0 0 low high right terms' fr to costs' lows highs rights termsM costsM froms tos → K (nI nc) 0 0 0 0 0 0 0 0 costs' 1 0 terms' (nI nc) 0 0 0 0 0 0 0 0) :
    wp_X6_clear worked hc csize fsize gone met (nI na) (nI nc) costs P (nI nr) terms (fun r a1 a2 a3 a4 a5 a6 a7 a8 a9 a10 a11 a12 => wp_X7_clear (nI na) (nI nc) frontM goneM hcM picksM plansM (nI nr) (fun r' b1 b2 b3 b4 b5 b6 b7 b8 => K r a1 a2 a3 a4 a5 a6 a7 a8 a9 a10 a11 a12 r' b1 b2 b3 b4 b5 b6 b7 b8)) := by
  obtain ⟨s1, s2, s3, s4, s5, s6, s7, s8, s9, s10, s11, s12⟩ := hs
  unfold wp_X6_clear wp_X6_beginAnew wp_X2_end wp_X0_forget wp_X5_forget
  refine Lq2_inv (fun i g => ∃ j : Nat, j ≤ 8 ∧ i = nI j ∧ ∀ r c, r < j → c < 8 → g r c = 0) (fun i _ => 8 - i.toNatClampNeg) ?_ _ _ ⟨0, Nat.zero_le _, rfl, fun r c hr => absurd hr (Nat.not_lt_zero _)⟩
  rintro i g ⟨j, hj, rfl, g1⟩ w hw
  unfold b_X5_forget_30
  refine ⟨fun hle => ?_, fun hlt => ?_⟩
  · have : 8 ≤ j := (nI_leI (a := 8) (by omega) (by omega)).mp hle
    have e8 : j = 8 := by omega
    subst e8
    refine Lq2_inv (fun i f => ∃ j : Nat, j ≤ 4 ∧ i = nI j ∧ ∀ r c, r < j → c < 8 → f r c = 0) (fun i _ => 4 - i.toNatClampNeg) ?_ _ _ ⟨0, Nat.zero_le _, rfl, fun r c hr => absurd hr (Nat.not_lt_zero _)⟩
    rintro i f ⟨j, hj, rfl, f1⟩ w hw
    unfold b_X5_forget_62
    refine ⟨fun hle => ?_, fun hlt => ?_⟩
    · have : 4 ≤ j := (nI_leI (a := 4) (by omega) (by omega)).mp hle
      have e4 : j = 4 := by omega
      subst e4
      unfold wp_X7_clear wp_X7_anew
      refine hK1 f g ⟨by omega, by omega, by omega, fun c h => absurd h (Nat.not_lt_zero _), Nat.le_of_ble_eq_true rfl, fun c h => absurd h (Nat.not_lt_zero _), fun c h => absurd h (Nat.not_lt_zero _), fun r h => absurd h (Nat.not_lt_zero _), fun r h => absurd h (Nat.not_lt_zero _), fun r h => absurd h (Nat.not_lt_zero _), fun r c h1 h2 _ => g1 r c h1 h2, fun r c h1 h2 _ => f1 r c h1 h2⟩
    · have hjn := nI_leN (a := 4) (by omega) (by omega) hlt
      refine ⟨vp_in_nI (by omega) (by decide), w_jfill (fun h h1 => hw _ _ ⟨j + 1, by omega, nI_1 j, fun r c hr hc => ?_⟩ ?_)⟩
      · rw [cl_nI (by omega)]
        by_cases e : r = j
        · subst e
          rw [updG_s]
          exact h1 c hc
        · rw [updG_n e]
          exact f1 r c (by omega) hc
      · rw [nI_1, cl_nI (by omega), cl_nI (by omega)]
        omega
  · have hjn := nI_leN (a := 8) (by omega) (by omega) hlt
    refine ⟨vp_in_nI (by omega) (by decide), w_jfill (fun h h1 => hw _ _ ⟨j + 1, by omega, nI_1 j, fun r c hr hc => ?_⟩ ?_)⟩
    · rw [cl_nI (by omega)]
      by_cases e : r = j
      · subst e
        rw [updG_s]
        exact h1 c hc
      · rw [updG_n e]
        exact g1 r c (by omega) hc
    · rw [nI_1, cl_nI (by omega), cl_nI (by omega)]
      omega
end SETUP

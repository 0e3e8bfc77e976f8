/-! ===== a whole climb: distinct points, fewer than 2000 steps ===== -/
def enc (lo hi x : Nat → Int32) : Nat → Nat
  | 0 => 0
  | n + 1 => enc lo hi x n * wN lo hi n + ((x n).toInt - (lo n).toInt).toNat
theorem dig_lt {lo hi x : Nat → Int32} {n c : Nat} (hx : inB lo hi x n) (hc : c < n) : ((x c).toInt - (lo c).toInt).toNat < wN lo hi c := by
  have := hx c hc
  unfold wN
  omega
theorem enc_lt {lo hi x : Nat → Int32} : ∀ (n : Nat), okB lo hi n → inB lo hi x n → enc lo hi x n < wP lo hi n
  | 0, _, _ => by
    show 0 < 1
    omega
  | n + 1, hb, hx => by
    have ih := enc_lt n (fun c hc => hb c (by omega)) (fun c hc => hx c (by omega))
    have hd := dig_lt hx (Nat.lt_succ_self n)
    show enc lo hi x n * wN lo hi n + _ < wP lo hi n * wN lo hi n
    have h1 : (enc lo hi x n + 1) * wN lo hi n ≤ wP lo hi n * wN lo hi n := Nat.mul_le_mul_right _ ih
    rw [Nat.succ_mul] at h1
    omega
theorem enc_inj {lo hi x y : Nat → Int32} : ∀ (n : Nat), inB lo hi x n → inB lo hi y n → enc lo hi x n = enc lo hi y n → ∀ c, c < n → x c = y c
  | 0, _, _, _, c, hc => absurd hc (Nat.not_lt_zero _)
  | n + 1, hx, hy, e, c, hc => by
    have e' : enc lo hi x n * wN lo hi n + ((x n).toInt - (lo n).toInt).toNat = enc lo hi y n * wN lo hi n + ((y n).toInt - (lo n).toInt).toNat := e
    have d1 := dig_lt hx (Nat.lt_succ_self n)
    have d2 := dig_lt hy (Nat.lt_succ_self n)
    have m1 := congrArg (fun z => z % wN lo hi n) e'
    have q1 := congrArg (fun z => z / wN lo hi n) e'
    rw [Nat.mul_comm, Nat.mul_add_mod, Nat.mod_eq_of_lt d1, Nat.mul_comm (enc lo hi y n), Nat.mul_add_mod, Nat.mod_eq_of_lt d2] at m1
    rw [Nat.mul_comm, Nat.mul_add_div (by omega), Nat.div_eq_of_lt d1, Nat.mul_comm (enc lo hi y n), Nat.mul_add_div (by omega), Nat.div_eq_of_lt d2] at q1
    rcases Nat.lt_or_ge c n with z | z
    · exact enc_inj n (fun c hc => hx c (by omega)) (fun c hc => hy c (by omega)) (by omega) c z
    · have : c = n := by omega
      subst this
      have b1 := hx c hc
      have b2 := hy c hc
      rw [← Int32.toInt_inj]
      omega
section CB
variable {nc nr na : Nat} {low high right : Nat → Int32} {terms : Nat → Nat → Int32} {fr to : Nat → Int32} {costs : Nat → Nat → Int32} {lows highs rights termsM costsM froms tos : Nat → Int32}
theorem path_le (hb : okB lows highs nc) {ps : Nat → Nat → Int32} {j : Nat} (hin : ∀ i, i ≤ j → inB lows highs (ps i) nc) (hdec : ∀ i, i < j → P4 (lnA na (Sc costsM nc (ps (i + 1)))) < P4 (lnA na (Sc costsM nc (ps i)))) : j + 1 ≤ wP lows highs nc := by
  have mono : ∀ d i, i + d ≤ j → 0 < d → P4 (lnA na (Sc costsM nc (ps (i + d)))) < P4 (lnA na (Sc costsM nc (ps i))) := by
    intro d
    induction d with
    | zero => exact fun i _ h => absurd h (by omega)
    | succ d ih =>
      intro i hi _
      have h1 := hdec (i + d) (by omega)
      rcases Nat.eq_zero_or_pos d with z | z
      · subst z
        exact h1
      · exact Nat.lt_trans h1 (ih i (by omega) z)
  refine inj_le _ (j + 1) (fun i => enc lows highs (ps i) nc) (fun i hi => enc_lt nc hb (hin i (by omega))) (fun i i' hii hi' e => ?_)
  have e2 := enc_inj nc (hin i (by omega)) (hin i' (by omega)) e
  have h1 := mono (i' - i) i (by omega) (by omega)
  rw [show i + (i' - i) = i' by omega, Sc_congr e2] at h1
  exact Nat.lt_irrefl _ h1
theorem gdS_congr {x x' y y' : Nat → Int32} (hx : ∀ c, c < nc → x c = x' c) (hy : ∀ c, c < nc → y c = y' c) : gdS nc nr na lows highs rights termsM costsM froms tos x y ↔ gdS nc nr na lows highs rights termsM costsM froms tos x' y' := by
  have hi : inB lows highs y nc ↔ inB lows highs y' nc := ⟨fun h c hc => by rw [← hy c hc]; exact h c hc, fun h c hc => by rw [hy c hc]; exact h c hc⟩
  unfold gdS
  rw [hi, isP_congr hy, Sc_congr hx, Sc_congr hy]
theorem cand_congr {x x' : Nat → Int32} (hx : ∀ c, c < nc → x c = x' c) {i : Nat} (hi : i < 2 * nc) : ∀ c, c < nc → cand x i c = cand x' i c := fun c hc => by
  unfold cand
  by_cases e : c = i / 2
  · subst e
    rw [upd_s, upd_s, hx _ hc]
  · rw [upd_n e, upd_n e, hx c hc]
theorem FI_congr {x x' : Nat → Int32} (hx : ∀ c, c < nc → x c = x' c) {i : Nat} (h : FI (gdS nc nr na lows highs rights termsM costsM froms tos) nc x i) : FI (gdS nc nr na lows highs rights termsM costsM froms tos) nc x' i :=
  ⟨h.1, (gdS_congr hx (cand_congr hx h.1)).mp h.2.1, fun i' hi' z => h.2.2 i' hi' ((gdS_congr hx (cand_congr hx (by have := h.1; omega))).mpr z)⟩
theorem NI_congr {x x' : Nat → Int32} (hx : ∀ c, c < nc → x c = x' c) (h : NI (gdS nc nr na lows highs rights termsM costsM froms tos) nc x) : NI (gdS nc nr na lows highs rights termsM costsM froms tos) nc x' := fun i hi z => h i hi ((gdS_congr hx (cand_congr hx hi)).mpr z)
set_option maxHeartbeats 1000000 in
theorem m_climb (hs : SU nc nr na low high right terms fr to costs lows highs rights termsM costsM froms tos) {hc hcM : Int32} {place numbers en point score was : Nat → Int32} {x : Int32} {K : Int32 → Int32 → (Nat → Int32) → (Nat → Int32) → Int32 → (Nat → Int32) → Int32 → (Nat → Int32) → (Nat → Int32) → (Nat → Int32) → Prop}
    (hK0 : ∀ r nb pt sc, K r hc place nb r en hcM pt sc was) (hK1 : ∀ k pl nb en' pt sc ws, (∀ c, c < nc → pl c = en' c) → K k 1 pl nb k en' 1 pt sc ws) :
    wp_X6_climb hc place numbers (nI na) (nI nc) costs fr high low (nI (wP lows highs nc)) right (nI nr) terms to x (fun r h' pl nb => wp_X7_climb (nI na) (nI nc) costsM en froms hcM highs lows point rights (nI nr) score termsM tos was x (fun r' e' h2 pt sc ws => K r h' pl nb r' e' h2 pt sc ws)) := by
  have hs' := hs
  obtain ⟨s1, s2, s3, s4, s5, s6, s7, s8, s9, s10, s11, s12⟩ := hs
  have hb : okB low high nc := fun c h => by
    rw [(s6 c h).1, (s6 c h).2]
    exact s4 c h
  unfold wp_X6_climb
  refine w_amongN (by omega) (fun n hn en' => ⟨fun z => absurd z (by decide), fun _ => ?_⟩) (fun hn => ⟨fun _ => ?_, fun z => absurd rfl z⟩)
  · subst en'
    -- the model up to the plan
    have enter : ∀ (post : Int32 → (Nat → Int32) → Int32 → (Nat → Int32) → (Nat → Int32) → (Nat → Int32) → Prop), (∀ pt, (∀ c, c < nc → pt c = Xn nc lows highs n c) → inB lows highs pt nc → (na = 0 → post (-1000002) en hcM pt score was) ∧ (0 < na → ∀ v sc, fl v (isP nc nr na termsM rights costsM froms tos (Xn nc lows highs n)) → (∀ a, a < na → sc a = Sc costsM nc (Xn nc lows highs n) a) → (v = 0 → post (-1000002) en hcM pt sc was) ∧ (¬ v = 0 → Lq5 (b_X7_climb_45 (nI nc) (nI nr) (nI na) costsM froms highs lows rights termsM tos (fun v2 p2 sc2 ws2 => Lq2 (b_X7_climb_104 (nI nc) p2 (fun e2 => post v2 e2 (1 : Int32) p2 sc2 ws2)) (0 : Int32) en)) (0 : Int32) (1 : Int32) pt sc was))) → wp_X7_climb (nI na) (nI nc) costsM en froms hcM highs lows point rights (nI nr) score termsM tos was (nI n) post := by
      intro post hp
      unfold wp_X7_climb
      refine w_points s1 s4 ?_
      refine w_isN (by omega) (fun j hj e => ⟨fun z => absurd z (by decide), fun _ => ?_⟩) (fun z => absurd rfl (z n hn))
      refine w_toPoint s1 s4 (by omega) ?_
      have ex : ∀ c, c < nc → fz lows highs nc n point c = Xn nc lows highs n c := fun c hc => fz_in nc n _ _ c hc
      have hin : inB lows highs (fz lows highs nc n point) nc := fun c hc => fz_bd nc n point s4 c hc
      obtain ⟨p0, p1⟩ := hp _ ex hin
      refine nf_z (by omega) p0 (fun hna => ?_)
      refine w_isPlan s1 s2 s3 (fun v sc hf hs1 _ => ?_)
      refine p1 hna v sc (fl_iff hf ⟨fun z => (isP_congr ex).mp z.2, fun z => ⟨hin, (isP_congr ex).mpr z⟩⟩) (fun a ha => ?_)
      rw [hs1 a ha]
      exact congrFun (Sc_congr ex) a
    refine w_fill s1 hb (by omega) ?_
    have ex : ∀ c, c < nc → fz low high nc n numbers c = Xn nc lows highs n c := fun c h => by
      rw [fz_congr nc n numbers s6]
      exact fz_in nc n _ _ c h
    refine nf_z (by omega) (fun e => ?_) (fun hna => ?_)
    · exact enter _ (fun pt _ _ => ⟨fun _ => hK0 _ _ _ _, fun z => absurd z (by omega)⟩)
    · refine w_scoreOf s1 s2 s3 s8 s7 s9 s10 (fun hp hok => ?_) (fun hp => ⟨fun _ => ?_, fun z => absurd rfl z⟩)
      · have hpX : isP nc nr na termsM rights costsM froms tos (Xn nc lows highs n) := (isP_congr ex).mp hp
        refine ⟨fun z => absurd z (lN_ne (P4_63 (lnA_lt hok))), fun _ => ?_⟩
        unfold wp_X1_climbFrom
        refine ⟨by decide, by decide, by decide, by decide, by decide, ?_⟩
        unfold jv
        have ec : ∀ c, c < nc → va_cpy (fz low high nc n numbers) place ((0 : Int32)).toNatClampNeg ((0 : Int32)).toNatClampNeg ((8 : Int32)).toNatClampNeg c = Xn nc lows highs n c := fun c h => by
          have e8 : ((8 : Int32)).toNatClampNeg = 8 := rfl
          have e0 : ((0 : Int32)).toNatClampNeg = 0 := rfl
          rw [e8, e0, pk_cpy_in (by omega) (by omega), show 0 + (c - 0) = c by omega]
          exact ex c h
        generalize va_cpy (fz low high nc n numbers) place ((0 : Int32)).toNatClampNeg ((0 : Int32)).toNatClampNeg ((8 : Int32)).toNatClampNeg = p0 at ec ⊢
        have hp0 : isP nc nr na termsM rights costsM froms tos p0 := (isP_congr ec).mpr hpX
        have hin0 : inB lows highs p0 nc := fun c h => by
          rw [ec c h]
          exact fz_bd nc n _ s4 c h
        have bnd : ∀ a, a < na → -2000 ≤ (froms a).toInt ∧ (tos a).toInt ≤ 2000 := fun a ha => (s10 a ha).2.2
        -- the model, replaying a path of k steps
        have model : ∀ (k : Nat) (ps : Nat → Nat → Int32) (ix : Nat → Nat) (nb : Nat → Int32), k < 2000 → (∀ c, c < nc → ps 0 c = Xn nc lows highs n c) → (∀ j, j ≤ k → okS na (Sc costsM nc (ps j))) → (∀ j, j < k → FI (gdS nc nr na lows highs rights termsM costsM froms tos) nc (ps j) (ix j) ∧ ps (j + 1) = cand (ps j) (ix j)) → NI (gdS nc nr na lows highs rights termsM costsM froms tos) nc (ps k) → wp_X7_climb (nI na) (nI nc) costsM en froms hcM highs lows point rights (nI nr) score termsM tos was (nI n) (fun r' e' h2 pt sc ws => K (nI k) 1 (ps k) nb r' e' h2 pt sc ws) := by
          intro k ps ix nb hk2 hps0 hpok hpst hpend
          refine enter _ (fun pt hpt hptin => ⟨fun z => absurd z (by omega), fun _ v sc hv hsc => ⟨fun z => absurd hpX (fl_no hv z), fun _ => ?_⟩⟩)
          have eps0 : Sc costsM nc (Xn nc lows highs n) = Sc costsM nc (ps 0) := Sc_congr (fun c h => (hps0 c h).symm)
          refine Lq5_inv (fun st mo p sc ws => ∃ j : Nat, j ≤ k ∧ st = nI j ∧ (∀ c, c < nc → p c = ps j c) ∧ ((mo = 1 ∧ ∀ a, a < na → sc a = Sc costsM nc (ps j) a) ∨ (mo = 0 ∧ j = k))) (fun st mo _ _ _ => 2 * (2000 - st.toNatClampNeg) + mo.toNatClampNeg) ?_ _ _ _ _ _ ⟨0, Nat.zero_le _, rfl, fun c h => by rw [hpt c h, hps0 c h], Or.inl ⟨rfl, fun a ha => by rw [hsc a ha, eps0]⟩⟩
          rintro st mo p sc ws ⟨j, hj, rfl, hpj, hmo⟩ w hw
          unfold b_X7_climb_45
          rcases hmo with ⟨rfl, hscj⟩ | ⟨rfl, rfl⟩
          · refine ⟨fun z => absurd z (by decide), fun _ => ?_⟩
            refine Lq2_inv (fun i ws => ∃ b : Nat, b ≤ na ∧ i = nI b ∧ ∀ a, a < b → ws a = Sc costsM nc (ps j) a) (fun i _ => na - i.toNatClampNeg) ?_ _ _ ⟨0, Nat.zero_le _, rfl, fun a h => absurd h (Nat.not_lt_zero _)⟩
            rintro i ws2 ⟨b, hbn, rfl, hws⟩ w2 hw2
            unfold b_X7_climb_52
            refine ⟨fun hle => ?_, fun hlt => ?_⟩
            · have : na ≤ b := (nI_leI (by omega) (by omega)).mp hle
              have : b = na := by omega
              subst this
              have eSp : Sc costsM nc p = Sc costsM nc (ps j) := Sc_congr hpj
              refine y_step hs' rfl (by rw [eSp]; exact hpok j hj) (fun a ha => by rw [hws a ha, eSp]) (fun i sc2 hfi hs2 => ⟨fun z => absurd z (by decide), fun _ => ?_⟩) (fun sc2 hni => ⟨fun _ => ?_, fun z => absurd rfl z⟩)
              · have hfi' := FI_congr hpj hfi
                have hjk : j < k := by
                  rcases Nat.lt_or_ge j k with u | u
                  · exact u
                  · have : j = k := by omega
                    subst this
                    exact absurd hfi'.2.1 (hpend i hfi'.1)
                obtain ⟨f1, f2⟩ := hpst j hjk
                have ei : i = ix j := FI_un hfi' f1
                subst ei
                have ep : ∀ c, c < nc → cand p (ix j) c = ps (j + 1) c := fun c h => by
                  rw [f2]
                  exact cand_congr hpj hfi.1 c h
                refine hw _ _ _ _ _ ⟨j + 1, by omega, nI_1 j, ep, Or.inl ⟨rfl, fun a ha => ?_⟩⟩ ?_
                · rw [hs2 a ha]
                  exact congrFun (Sc_congr ep) a
                · rw [nI_1, cl_nI (by omega), cl_nI (by omega)]
                  have : Int32.toNatClampNeg 1 = 1 := rfl
                  omega
              · have hni' := NI_congr hpj hni
                have hjk : j = k := by
                  rcases Nat.lt_or_ge j k with u | u
                  · obtain ⟨f1, -⟩ := hpst j u
                    exact absurd f1.2.1 (hni' _ f1.1)
                  · omega
                refine hw _ _ _ _ _ ⟨j, hj, Int32.add_zero _, hpj, Or.inr ⟨rfl, hjk⟩⟩ ?_
                rw [Int32.add_zero]
                have e1 : Int32.toNatClampNeg 1 = 1 := rfl
                have e0 : Int32.toNatClampNeg 0 = 0 := rfl
                omega
            · have hbl := nI_leN (by omega) (by omega) hlt
              have hin : vp_in (nI b) 4 := vp_in_nI (by omega) (by decide)
              rw [cl_nI (by omega)]
              refine ⟨hin, hin, hw2 _ _ ⟨b + 1, by omega, nI_1 b, fun a ha => ?_⟩ ?_⟩
              · by_cases u : a = b
                · subst u
                  rw [upd_s]
                  exact hscj a hbl
                · rw [upd_n u]
                  exact hws a (by omega)
              · rw [nI_1, cl_nI (by omega), cl_nI (by omega)]
                omega
          · refine ⟨fun _ => ?_, fun z => absurd rfl z⟩
            refine Lq2_inv (fun i e => ∃ b : Nat, b ≤ nc ∧ i = nI b ∧ ∀ c, c < b → e c = p c) (fun i _ => nc - i.toNatClampNeg) ?_ _ _ ⟨0, Nat.zero_le _, rfl, fun c h => absurd h (Nat.not_lt_zero _)⟩
            rintro i e ⟨b, hbn, rfl, he⟩ w2 hw2
            unfold b_X7_climb_104
            refine ⟨fun hle => ?_, fun hlt => ?_⟩
            · have : nc ≤ b := (nI_leI (by omega) (by omega)).mp hle
              exact hK1 _ _ _ _ _ _ _ (fun c h => by rw [he c (by omega), hpj c h])
            · have hbl := nI_leN (by omega) (by omega) hlt
              have hin : vp_in (nI b) 8 := vp_in_nI (by omega) (by decide)
              rw [cl_nI (by omega)]
              refine ⟨hin, hin, hw2 _ _ ⟨b + 1, by omega, nI_1 b, fun c h => ?_⟩ ?_⟩
              · by_cases u : c = b
                · subst u
                  rw [upd_s]
                · rw [upd_n u]
                  exact he c (by omega)
              · rw [nI_1, cl_nI (by omega), cl_nI (by omega)]
                omega
        -- the class's path
        refine w_scoreOf s1 s2 s3 s8 s7 s9 s10 (fun _ hok0 => ?_) (fun z => absurd hp0 z)
        refine Lq3_inv (fun scv st p => ∃ (j : Nat) (ps : Nat → Nat → Int32) (ix : Nat → Nat), st = nI j ∧ p = ps j ∧ scv = lN (P4 (lnA na (Sc costsM nc (ps j)))) ∧ j < 2000 ∧ ps 0 = p0 ∧ (∀ i, i ≤ j → okS na (Sc costsM nc (ps i)) ∧ inB lows highs (ps i) nc) ∧ ∀ i, i < j → FI (gdS nc nr na lows highs rights termsM costsM froms tos) nc (ps i) (ix i) ∧ ps (i + 1) = cand (ps i) (ix i)) (fun _ st _ => 2000 - st.toNatClampNeg) ?_ _ _ _ ⟨0, fun _ => p0, fun _ => 0, rfl, rfl, rfl, by omega, rfl, fun i _ => ⟨hok0, hin0⟩, fun i h => absurd h (Nat.not_lt_zero _)⟩
        rintro scv st p ⟨j, ps, ix, rfl, rfl, rfl, hj, hps0, hpo, hpst⟩ w hw
        unfold b_X1_climbFrom_29
        refine ⟨fun hle => ?_, fun _ => ?_⟩
        · have : 2000 ≤ j := (nI_leI (a := 2000) (by omega) (by omega)).mp hle
          omega
        · refine x_step hs' rfl (hpo j (Nat.le_refl _)).2 (hpo j (Nat.le_refl _)).1 (fun i hfi hok2 => ⟨fun z => absurd z (lN_ne (P4_63 (lnA_lt hok2))), fun _ => ?_⟩) (fun hni => ⟨fun _ => ?_, fun z => absurd rfl z⟩)
          · -- one step more
            have em : ∀ i', i' ≠ j + 1 → (fun i' => if i' = j + 1 then cand (ps j) i else ps i') i' = ps i' := fun i' h => if_neg h
            have ej : (fun i' => if i' = j + 1 then cand (ps j) i else ps i') (j + 1) = cand (ps j) i := if_pos rfl
            have hin2 : inB lows highs (cand (ps j) i) nc := hfi.2.1.1.1
            have a1 : ∀ i', i' ≤ j + 1 → okS na (Sc costsM nc ((fun i' => if i' = j + 1 then cand (ps j) i else ps i') i')) ∧ inB lows highs ((fun i' => if i' = j + 1 then cand (ps j) i else ps i') i') nc := fun i' hi' => by
              by_cases u : i' = j + 1
              · subst u
                rw [ej]
                exact ⟨hok2, hin2⟩
              · rw [em i' u]
                exact hpo i' (by omega)
            have a2 : ∀ i', i' < j + 1 → FI (gdS nc nr na lows highs rights termsM costsM froms tos) nc ((fun i' => if i' = j + 1 then cand (ps j) i else ps i') i') ((fun i' => if i' = j then i else ix i') i') ∧ (fun i' => if i' = j + 1 then cand (ps j) i else ps i') (i' + 1) = cand ((fun i' => if i' = j + 1 then cand (ps j) i else ps i') i') ((fun i' => if i' = j then i else ix i') i') := fun i' hi' => by
              rw [em i' (by omega)]
              by_cases u : i' = j
              · subst u
                rw [ej, show (fun k => if k = i' then i else ix k) i' = i from if_pos rfl]
                exact ⟨hfi, rfl⟩
              · rw [em (i' + 1) (by omega), show (fun k => if k = j then i else ix k) i' = ix i' from if_neg u]
                exact hpst i' (by omega)
            have a3 : j + 1 + 1 ≤ wP lows highs nc := path_le (na := na) (costsM := costsM) s4 (fun i' hi' => (a1 i' hi').2) (fun i' hi' => by
              obtain ⟨f1, f2⟩ := a2 i' hi'
              have g := f1.2.1
              rw [← f2] at g
              exact Nat.lt_of_le_of_ne (dm_le g.2.1) g.2.2)
            refine hw _ _ _ ⟨j + 1, fun i' => if i' = j + 1 then cand (ps j) i else ps i', fun i' => if i' = j then i else ix i', nI_1 j, ej.symm, by rw [ej], by omega, ?_, a1, a2⟩ ?_
            · exact (em 0 (by omega)).trans hps0
            · rw [nI_1, cl_nI (by omega), cl_nI (by omega)]
              omega
          · exact model j ps ix _ hj (fun c h => by rw [hps0]; exact ec c h) (fun i hi => (hpo i hi).1) hpst hni
      · refine enter _ (fun pt _ _ => ⟨fun z => absurd z (by omega), fun _ v sc hv _ => ⟨fun _ => hK0 _ _ _ _, fun z => absurd (fl_yes hv z).1 (fun y => hp ((isP_congr ex).mpr y))⟩⟩)
  · unfold wp_X7_climb
    refine w_points s1 s4 ?_
    exact w_isN (by omega) (fun j hj e => absurd e (hn j hj)) (fun z => ⟨fun _ => hK0 _ _ _ _, fun z => absurd rfl z⟩)
end CB

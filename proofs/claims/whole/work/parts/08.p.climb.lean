/-! ===== climbing ===== -/
theorem upd_uu {f : Nat → Int32} {k : Nat} {x y : Int32} : upd (upd f k x) k y = upd f k y := by
  funext j
  by_cases e : j = k
  · subst e
    rw [upd_s, upd_s]
  · rw [upd_n e, upd_n e, upd_n e]
theorem upd_id {f : Nat → Int32} {k : Nat} : upd f k (f k) = f := by
  funext j
  by_cases e : j = k
  · subst e
    rw [upd_s]
  · rw [upd_n e]
/-- the i-th neighbour: column 0 one less, column 0 one more, column 1 one less .. -/
def cand (x : Nat → Int32) (i : Nat) : Nat → Int32 := upd x (i / 2) (x (i / 2) + (if i % 2 = 0 then -1 else 1))
theorem cand_lo {x : Nat → Int32} {c : Nat} : cand x (2 * c) = upd x c (x c + (-1)) := by
  unfold cand
  rw [show 2 * c / 2 = c by omega, if_pos (by omega)]
theorem cand_hi {x : Nat → Int32} {c : Nat} : cand x (2 * c + 1) = upd x c (x c + 1) := by
  unfold cand
  rw [show (2 * c + 1) / 2 = c by omega, if_neg (by omega)]
/-- the first neighbour that is good -/
def FI (G : (Nat → Int32) → (Nat → Int32) → Prop) (nc : Nat) (x : Nat → Int32) (i : Nat) : Prop := i < 2 * nc ∧ G x (cand x i) ∧ ∀ i', i' < i → ¬ G x (cand x i')
def NI (G : (Nat → Int32) → (Nat → Int32) → Prop) (nc : Nat) (x : Nat → Int32) : Prop := ∀ i, i < 2 * nc → ¬ G x (cand x i)
theorem FI_un {G : (Nat → Int32) → (Nat → Int32) → Prop} {nc : Nat} {x : Nat → Int32} {i j : Nat} (hi : FI G nc x i) (hj : FI G nc x j) : i = j := by
  rcases Nat.lt_trichotomy i j with z | z | z
  · exact absurd hi.2.1 (hj.2.2 i z)
  · exact z
  · exact absurd hj.2.1 (hi.2.2 j z)
def gdS (nc nr na : Nat) (lows highs rights termsM costsM froms tos : Nat → Int32) (x y : Nat → Int32) : Prop := (inB lows highs y nc ∧ isP nc nr na termsM rights costsM froms tos y) ∧ dm (lnA na (Sc costsM nc y)) (lnA na (Sc costsM nc x)) ∧ P4 (lnA na (Sc costsM nc y)) ≠ P4 (lnA na (Sc costsM nc x))
section CL
variable {nc nr na : Nat} {low high right : Nat → Int32} {terms : Nat → Nat → Int32} {fr to : Nat → Int32} {costs : Nat → Nat → Int32} {lows highs rights termsM costsM froms tos : Nat → Int32}
theorem lN_ne {n : Nat} (h : n < 2 ^ 63) : ¬ lN n = (-1 : Int64) := fun e => by
  have e1 := congrArg Int64.toInt e
  rw [pk_lT h] at e1
  have e2 : Int64.toInt (-1) = -1 := by decide
  omega
theorem w_bounded (hs : SU nc nr na low high right terms fr to costs lows highs rights termsM costsM froms tos) {y : Nat → Int32} {c : Nat} (hc : c < nc) (ho : ∀ c', c' < nc → c' ≠ c → (lows c').toInt ≤ (y c').toInt ∧ (y c').toInt ≤ (highs c').toInt) {post : Int64 → Prop}
    (h1 : inB lows highs y nc ∧ isP nc nr na termsM rights costsM froms tos y → okS na (Sc costsM nc y) → post (lN (P4 (lnA na (Sc costsM nc y))))) (h0 : ¬ (inB lows highs y nc ∧ isP nc nr na termsM rights costsM froms tos y) → post (-1)) : wp_X1_boundedScore (nI na) (nI nc) costs fr high low right (nI nr) terms to y (nI c) post := by
  obtain ⟨s1, s2, s3, s4, s5, s6, s7, s8, s9, s10, s11, s12⟩ := hs
  unfold wp_X1_boundedScore
  have hin : vp_in (nI c) 8 := vp_in_nI (by omega) (by decide)
  rw [cl_nI (by omega), (s6 c hc).1, (s6 c hc).2]
  refine ⟨hin, hin, fun q => ?_, fun q => ⟨hin, hin, fun q2 => ?_, fun q2 => ?_⟩⟩
  · rw [Int32.lt_iff_toInt_lt] at q
    exact h0 (fun z => by
      have := z.1 c hc
      omega)
  · have q1 := i_nlt q
    rw [Int32.le_iff_toInt_le] at q1 q2
    have hb : inB lows highs y nc := fun c' hc' => by
      by_cases e : c' = c
      · subst e
        exact ⟨q1, q2⟩
      · exact ho c' hc' e
    exact w_scoreOf s1 s2 s3 s8 s7 s9 s10 (fun hp hok => h1 ⟨hb, hp⟩ hok) (fun hp => h0 (fun z => hp z.2))
  · have q1 := i_nle q2
    rw [Int32.lt_iff_toInt_lt] at q1
    exact h0 (fun z => by
      have := z.1 c hc
      omega)
theorem x_step (hs : SU nc nr na low high right terms fr to costs lows highs rights termsM costsM froms tos) {G : (Nat → Int32) → (Nat → Int32) → Prop} (hG : G = gdS nc nr na lows highs rights termsM costsM froms tos) {x : Nat → Int32} (hx : inB lows highs x nc) (hok : okS na (Sc costsM nc x)) {post : Int64 → (Nat → Int32) → Prop}
    (h1 : ∀ i, FI G nc x i → okS na (Sc costsM nc (cand x i)) → post (lN (P4 (lnA na (Sc costsM nc (cand x i))))) (cand x i)) (h0 : NI G nc x → post (-1) x) : wp_X1_step (nI na) (nI nc) costs fr high low right (nI nr) terms to x (lN (P4 (lnA na (Sc costsM nc x)))) post := by
  have hs' := hs
  obtain ⟨s1, s2, s3, s4, s5, s6, s7, s8, s9, s10, s11, s12⟩ := hs
  have hl := lnA_lt hok
  unfold wp_X1_step
  refine Lq2_inv (fun i p => ∃ c : Nat, c ≤ nc ∧ i = nI c ∧ p = x ∧ ∀ i', i' < 2 * c → ¬ G x (cand x i')) (fun i _ => nc - i.toNatClampNeg) ?_ _ _ ⟨0, Nat.zero_le _, rfl, rfl, fun i h => absurd h (by omega)⟩
  rintro i p ⟨c, hc, rfl, rfl, hno⟩ w hw
  unfold b_X1_step_3
  refine ⟨fun hle => ?_, fun hlt => ?_⟩
  · have : nc ≤ c := (nI_leI (by omega) (by omega)).mp hle
    exact h0 (fun i' hi' => hno i' (by omega))
  · have hcn := nI_leN (by omega) (by omega) hlt
    have hin : vp_in (nI c) 8 := vp_in_nI (by omega) (by decide)
    have dec : nc - (nI c + 1).toNatClampNeg < nc - (nI c).toNatClampNeg := by
      rw [nI_1, cl_nI (by omega), cl_nI (by omega)]
      omega
    have ho : ∀ s : Int32, ∀ c', c' < nc → c' ≠ c → (lows c').toInt ≤ (upd p c s c').toInt ∧ (upd p c s c').toInt ≤ (highs c').toInt := fun s c' hc' e => by
      rw [upd_n e]
      exact hx c' hc'
    rw [cl_nI (by omega)]
    refine ⟨hin, ?_⟩
    -- one try
    have try1 : ∀ (s : Int32) (k : (Nat → Int32) → Prop), (G p (upd p c (p c + s)) → okS na (Sc costsM nc (upd p c (p c + s))) → post (lN (P4 (lnA na (Sc costsM nc (upd p c (p c + s)))))) (upd p c (p c + s))) → (¬ G p (upd p c (p c + s)) → k (upd p c (p c + s))) → wp_X1_boundedScore (nI na) (nI nc) costs fr high low right (nI nr) terms to (upd p c (p c + s)) (nI c) (fun r_46 => (r_46 = (-1 : Int64) → k (upd p c (p c + s))) ∧ (¬ r_46 = (-1 : Int64) → (r_46 = lN (P4 (lnA na (Sc costsM nc p))) → k (upd p c (p c + s))) ∧ (¬ r_46 = lN (P4 (lnA na (Sc costsM nc p))) → wp_X4_inNoneGreater r_46 (lN (P4 (lnA na (Sc costsM nc p)))) (fun r_70 => (r_70 = 0 → k (upd p c (p c + s))) ∧ (¬ r_70 = 0 → post r_46 (upd p c (p c + s))))))) := by
      intro s k g1 g0
      refine w_bounded hs' hcn (ho _) (fun hp hok2 => ?_) (fun hp => ⟨fun _ => g0 (fun z => hp (by rw [hG] at z; exact z.1)), fun z => absurd rfl z⟩)
      have hl2 := lnA_lt hok2
      refine ⟨fun z => absurd z (lN_ne (P4_63 hl2)), fun _ => ⟨fun z => ?_, fun z => ?_⟩⟩
      · have e := (pk_lEQ (P4_63 hl2) (P4_63 hl)).mp z
        exact g0 (fun y => by rw [hG] at y; exact y.2.2 e)
      · have e : P4 (lnA na (Sc costsM nc (upd p c (p c + s)))) ≠ P4 (lnA na (Sc costsM nc p)) := fun y => z (by rw [y])
        refine w_ing hl2 hl (fun hd => ⟨fun y => absurd y (by decide), fun _ => g1 (by rw [hG]; exact ⟨hp, hd, e⟩) hok2⟩) (fun hd => ⟨fun _ => g0 (fun y => by rw [hG] at y; exact hd y.2.1), fun y => absurd rfl y⟩)
    refine Lq2_inv (fun m q => (m = -1 ∧ q = p) ∨ (m = 1 ∧ q = upd p c (p c + (-1)) ∧ ¬ G p (upd p c (p c + (-1)))) ∨ (m = 3 ∧ q = upd p c (p c + 1) ∧ ¬ G p (upd p c (p c + (-1))) ∧ ¬ G p (upd p c (p c + 1)))) (fun m _ => (3 - m).toNatClampNeg) ?_ _ _ (Or.inl ⟨rfl, rfl⟩)
    rintro m q hm w2 hw2
    unfold b_X1_step_24
    rw [cl_nI (by omega)]
    rcases hm with ⟨rfl, rfl⟩ | ⟨rfl, rfl, n1⟩ | ⟨rfl, rfl, n1, n2⟩
    · refine ⟨fun z => absurd z (by decide), fun _ => ⟨hin, ?_⟩⟩
      refine try1 (-1) (fun q' => w2 ((-1 : Int32) + 2) q') (fun g hok2 => ?_) (fun g => ?_)
      · have e : cand q (2 * c) = upd q c (q c + (-1)) := cand_lo
        rw [← e] at g hok2 ⊢
        exact h1 (2 * c) ⟨by omega, g, hno⟩ hok2
      · exact hw2 _ _ (Or.inr (Or.inl ⟨by decide, rfl, g⟩)) (by decide)
    · refine ⟨fun z => absurd z (by decide), fun _ => ⟨hin, ?_⟩⟩
      rw [upd_uu]
      refine try1 1 (fun q' => w2 ((1 : Int32) + 2) q') (fun g hok2 => ?_) (fun g => ?_)
      · have e : cand p (2 * c + 1) = upd p c (p c + 1) := cand_hi
        rw [← e] at g hok2 ⊢
        refine h1 (2 * c + 1) ⟨by omega, g, fun i' hi' => ?_⟩ hok2
        rcases Nat.lt_or_ge i' (2 * c) with z | z
        · exact hno i' z
        · have : i' = 2 * c := by omega
          rw [this, cand_lo]
          exact n1
      · exact hw2 _ _ (Or.inr (Or.inr ⟨by decide, rfl, n1, g⟩)) (by decide)
    · refine ⟨fun _ => ⟨hin, ?_⟩, fun z => absurd (by decide) z⟩
      rw [upd_uu, upd_id]
      refine hw _ _ ⟨c + 1, by omega, nI_1 c, rfl, fun i' hi' => ?_⟩ dec
      rcases Nat.lt_or_ge i' (2 * c) with z | z
      · exact hno i' z
      · have : i' = 2 * c ∨ i' = 2 * c + 1 := by omega
        rcases this with e | e
        · rw [e, cand_lo]
          exact n1
        · rw [e, cand_hi]
          exact n2
/-- the model's isBetter, was being the score of x -/
theorem y_isBetter (hs : SU nc nr na low high right terms fr to costs lows highs rights termsM costsM froms tos) {G : (Nat → Int32) → (Nat → Int32) → Prop} (hG : G = gdS nc nr na lows highs rights termsM costsM froms tos) {x y score was : Nat → Int32} (hok : okS na (Sc costsM nc x)) (hw : ∀ a, a < na → was a = Sc costsM nc x a) {post : Int32 → (Nat → Int32) → Prop}
    (h : ∀ r sc, fl r (G x y) → (∀ a, a < na → sc a = Sc costsM nc y a) → post r sc) : wp_X7_isBetter (nI na) (nI nc) costsM froms highs lows y rights (nI nr) score termsM tos was post := by
  obtain ⟨s1, s2, s3, s4, s5, s6, s7, s8, s9, s10, s11, s12⟩ := hs
  unfold wp_X7_isBetter
  refine w_isPlan s1 s2 s3 (fun v sc hf hs1 _ => ⟨fun z => h 0 sc (fl_0 (fun g => by rw [hG] at g; exact fl_no hf z g.1)) hs1, fun z => ?_⟩)
  obtain ⟨hpl, -⟩ := fl_yes hf z
  have hok2 : okS na (Sc costsM nc y) := isP_ok (fun a ha => (s10 a ha).2.2) hpl.2
  refine Lq3_inv (fun l g i => ∃ j : Nat, j ≤ na ∧ i = nI j ∧ fl l (¬ ∀ a, a < j → Sc costsM nc x a ≤ Sc costsM nc y a) ∧ fl g (¬ ∀ a, a < j → Sc costsM nc y a ≤ Sc costsM nc x a)) (fun _ _ i => na - i.toNatClampNeg) ?_ _ _ _ ⟨0, Nat.zero_le _, rfl, fl_0 (fun u => u (fun a h => absurd h (Nat.not_lt_zero _))), fl_0 (fun u => u (fun a h => absurd h (Nat.not_lt_zero _)))⟩
  rintro l g i ⟨j, hj, rfl, hl, hg⟩ w hw2
  unfold b_X7_isBetter_15
  refine ⟨fun hle => ?_, fun hlt => ?_⟩
  · have : na ≤ j := (nI_leI (by omega) (by omega)).mp hle
    have : j = na := by omega
    subst this
    have key : G x y ↔ (¬ ∀ a, a < j → Sc costsM nc x a ≤ Sc costsM nc y a) ∧ ∀ a, a < j → Sc costsM nc y a ≤ Sc costsM nc x a := by
      have d1 : dm (lnA j (Sc costsM nc y)) (lnA j (Sc costsM nc x)) ↔ ∀ a, a < j → Sc costsM nc y a ≤ Sc costsM nc x a := by
        constructor
        · intro hd a ha
          have := hd a (by omega)
          rw [lnA_in ha, lnA_in ha] at this
          exact (ln_le (hok2 a ha) (hok a ha)).mp this
        · intro hd a _
          by_cases ha : a < j
          · rw [lnA_in ha, lnA_in ha]
            exact (ln_le (hok2 a ha) (hok a ha)).mpr (hd a ha)
          · rw [lnA_out ha, lnA_out ha]
            exact Nat.le_refl _
      rw [hG]
      constructor
      · rintro ⟨-, hd, hne⟩
        have hd' := d1.mp hd
        refine ⟨fun u => hne ?_, hd'⟩
        refine P4_congr (fun a _ => ?_)
        by_cases ha : a < j
        · rw [lnA_in ha, lnA_in ha]
          have e1 := u a ha
          have e2 := hd' a ha
          rw [Int32.le_iff_toInt_le] at e1 e2
          unfold ln
          omega
        · rw [lnA_out ha, lnA_out ha]
      · rintro ⟨u, hd⟩
        refine ⟨hpl, d1.mpr hd, fun e => u (fun a ha => ?_)⟩
        have e1 := P4_inj (fun a h4 => Nat.lt_trans (lnA_lt hok2 a h4) (by decide)) (fun a h4 => Nat.lt_trans (lnA_lt hok a h4) (by decide)) e a (by omega)
        rw [lnA_in ha, lnA_in ha] at e1
        exact (ln_le (hok a ha) (hok2 a ha)).mp (by omega)
    refine ⟨fun u => h 0 sc (fl_0 (fun q => fl_no hl u (key.mp q).1)) hs1, fun u => ⟨fun u2 => h 1 sc (fl_1 (key.mpr ⟨(fl_yes hl u).1, Classical.byContradiction (fl_no hg u2)⟩)) hs1, fun u2 => h 0 sc (fl_0 (fun q => (fl_yes hg u2).1 (key.mp q).2)) hs1⟩⟩
  · have hjn := nI_leN (by omega) (by omega) hlt
    have hin : vp_in (nI j) 4 := vp_in_nI (by omega) (by decide)
    have dec : na - (nI j + 1).toNatClampNeg < na - (nI j).toNatClampNeg := by
      rw [nI_1, cl_nI (by omega), cl_nI (by omega)]
      omega
    rw [cl_nI (by omega), hs1 j hjn, hw j hjn]
    unfold jn1
    have next : ∀ l', fl l' (¬ ∀ a, a < j + 1 → Sc costsM nc x a ≤ Sc costsM nc y a) → (g = 0 → vp_in (nI j) 4 ∧ vp_in (nI j) 4 ∧ ((Sc costsM nc y j ≤ Sc costsM nc x j → w l' (0 : Int32) (nI j + (1 : Int32))) ∧ (¬ Sc costsM nc y j ≤ Sc costsM nc x j → w l' (1 : Int32) (nI j + (1 : Int32))))) ∧ (¬ g = 0 → w l' (1 : Int32) (nI j + (1 : Int32))) := fun l' hl' => by
      refine ⟨fun u => ⟨hin, hin, fun q => ?_, fun q => ?_⟩, fun u => ?_⟩
      · exact hw2 _ _ _ ⟨j + 1, by omega, nI_1 j, hl', fl_0 (fun k => k (all_succ.mpr ⟨Classical.byContradiction (fl_no hg u), q⟩))⟩ dec
      · exact hw2 _ _ _ ⟨j + 1, by omega, nI_1 j, hl', fl_1 (fun k => q (k j (by omega)))⟩ dec
      · exact hw2 _ _ _ ⟨j + 1, by omega, nI_1 j, hl', fl_1 (fun k => (fl_yes hg u).1 (fun a ha => k a (by omega)))⟩ dec
    refine ⟨fun u => ⟨hin, hin, fun q => next 0 (fl_0 (fun k => k (all_succ.mpr ⟨Classical.byContradiction (fl_no hl u), q⟩))), fun q => next 1 (fl_1 (fun k => q (k j (by omega))))⟩, fun u => next 1 (fl_1 (fun k => (fl_yes hl u).1 (fun a ha => k a (by omega))))⟩
theorem y_step (hs : SU nc nr na low high right terms fr to costs lows highs rights termsM costsM froms tos) {G : (Nat → Int32) → (Nat → Int32) → Prop} (hG : G = gdS nc nr na lows highs rights termsM costsM froms tos) {x score was : Nat → Int32} (hok : okS na (Sc costsM nc x)) (hw : ∀ a, a < na → was a = Sc costsM nc x a) {post : Int32 → (Nat → Int32) → (Nat → Int32) → Prop}
    (h1 : ∀ i sc, FI G nc x i → (∀ a, a < na → sc a = Sc costsM nc (cand x i) a) → post 1 (cand x i) sc) (h0 : ∀ sc, NI G nc x → post 0 x sc) : wp_X7_step (nI na) (nI nc) costsM froms highs lows x rights (nI nr) score termsM tos was post := by
  have hs' := hs
  obtain ⟨s1, s2, s3, s4, s5, s6, s7, s8, s9, s10, s11, s12⟩ := hs
  unfold wp_X7_step
  refine Lq3_inv (fun i p _ => ∃ c : Nat, c ≤ nc ∧ i = nI c ∧ p = x ∧ ∀ i', i' < 2 * c → ¬ G x (cand x i')) (fun i _ _ => nc - i.toNatClampNeg) ?_ _ _ _ ⟨0, Nat.zero_le _, rfl, rfl, fun i h => absurd h (by omega)⟩
  rintro i p sc ⟨c, hc, rfl, rfl, hno⟩ w hw2
  unfold b_X7_step_2
  refine ⟨fun hle => ?_, fun hlt => ?_⟩
  · have : nc ≤ c := (nI_leI (by omega) (by omega)).mp hle
    exact h0 sc (fun i' hi' => hno i' (by omega))
  · have hcn := nI_leN (by omega) (by omega) hlt
    have hin : vp_in (nI c) 8 := vp_in_nI (by omega) (by decide)
    have dec : nc - (nI c + 1).toNatClampNeg < nc - (nI c).toNatClampNeg := by
      rw [nI_1, cl_nI (by omega), cl_nI (by omega)]
      omega
    have e1 : p c - (1 : Int32) = p c + (-1) := Int32.sub_eq_add_neg _ _
    have e2 : p c + (-1) + (2 : Int32) = p c + 1 := by
      rw [Int32.add_assoc]
      rfl
    have e3 : p c + 1 - (1 : Int32) = p c := by
      rw [Int32.sub_eq_add_neg, Int32.add_assoc]
      exact Int32.add_zero _
    rw [cl_nI (by omega), e1, upd_s, upd_uu, e2, upd_s, upd_uu, e3, upd_id]
    refine ⟨hin, hin, y_isBetter hs' hG hok hw (fun r sc2 hr hs1 => ⟨fun z => ⟨hin, hin, y_isBetter hs' hG hok hw (fun r2 sc3 hr2 hs2 => ⟨fun z2 => ⟨hin, hin, ?_⟩, fun z2 => ?_⟩)⟩, fun z => ?_⟩)⟩
    · refine hw2 _ _ _ ⟨c + 1, by omega, nI_1 c, rfl, fun i' hi' => ?_⟩ dec
      rcases Nat.lt_or_ge i' (2 * c) with u | u
      · exact hno i' u
      · have : i' = 2 * c ∨ i' = 2 * c + 1 := by omega
        rcases this with e | e
        · rw [e, cand_lo]
          exact fl_no hr z
        · rw [e, cand_hi]
          exact fl_no hr2 z2
    · have e : cand p (2 * c + 1) = upd p c (p c + 1) := cand_hi
      have g := (fl_yes hr2 z2).1
      rw [(fl_yes hr2 z2).2] at *
      rw [← e] at g hs2 ⊢
      refine h1 (2 * c + 1) sc3 ⟨by omega, g, fun i' hi' => ?_⟩ hs2
      rcases Nat.lt_or_ge i' (2 * c) with u | u
      · exact hno i' u
      · have : i' = 2 * c := by omega
        rw [this, cand_lo]
        exact fl_no hr z
    · have e : cand p (2 * c) = upd p c (p c + (-1)) := cand_lo
      have g := (fl_yes hr z).1
      rw [← e] at g hs1 ⊢
      exact h1 (2 * c) sc2 ⟨by omega, g, hno⟩ hs1
end CL

/-! ===== the model's boxes ===== -/
section MB
variable {na nf d : Nat} {v : Nat → Nat → Int32} {scores : Nat → Int64} {FP PS : Nat → Int32} {m : Nat → Nat} {lam : Nat → Nat → Int} {number numbers place : Nat → Int32} {p : Nat → Nat}
theorem y_someLess (hV : FV na nf v scores FP PS) (hl : LVs nf na v m lam) (hM : MN na m lam number numbers) (hp : ∀ a, a < na → place a = nI (p a)) {x : Int32} {e : Nat → Nat} (he : ∀ a, a < na → p a + e a ≤ m a ∧ (nI a = x → e a = 1) ∧ (¬ nI a = x → e a = 0)) {post : Int32 → Prop}
    (h : ∀ r, fl r (∃ k, k < nf ∧ ∀ a, a < na → (v k a).toInt < lam a (p a + e a)) → post r) : wp_X7_someLess (nI na) (nI nf) FP number place PS x post := by
  have hV' := hV
  obtain ⟨v1, v2, v3⟩ := hV'
  unfold wp_X7_someLess
  refine Lq2_inv (fun s ii => ∃ i : Nat, i ≤ nf ∧ ii = nI i ∧ fl s (∃ k, k < i ∧ ∀ a, a < na → (v k a).toInt < lam a (p a + e a))) (fun s i => nf - i.toNatClampNeg) ?_ _ _ ⟨0, Nat.zero_le _, rfl, fl_0 (fun ⟨k, hk, _⟩ => absurd hk (Nat.not_lt_zero _))⟩
  rintro s ii ⟨i, hi, rfl, hs⟩ w hw
  unfold b_X7_someLess_4
  have fin : ∀ s, fl s (∃ k, k < i ∧ ∀ a, a < na → (v k a).toInt < lam a (p a + e a)) → (¬ s = 0 ∨ i = nf) → bz s ∧ post s := fun s hs q => by
    refine ⟨fl_bz hs, h s ?_⟩
    rcases q with q | q
    · obtain ⟨⟨k, hk, c⟩, e1⟩ := fl_yes hs q
      rw [e1]
      exact fl_1 ⟨k, by omega, c⟩
    · subst q
      exact hs
  refine ⟨fun hle => ?_, fun hlt => ⟨fun z => ?_, fun z => fin s hs (Or.inl z)⟩⟩
  · have : nf ≤ i := (nI_leI (by omega) (by omega)).mp hle
    exact fin s hs (Or.inr (by omega))
  · have hin := nI_leN (by omega) (by omega) hlt
    have no := fl_no hs z
    refine Lq2_inv (fun s aa => ∃ a : Nat, a ≤ na ∧ aa = nI a ∧ fl s (∀ b, b < a → (v i b).toInt < lam b (p b + e b))) (fun _ a => na - a.toNatClampNeg) ?_ _ _ ⟨0, Nat.zero_le _, rfl, fl_1 (fun b hb => absurd hb (Nat.not_lt_zero _))⟩
    rintro s2 aa ⟨a, ha, rfl, hs2⟩ w2 hw2
    unfold b_X7_someLess_21
    have dec : na - (nI a + 1).toNatClampNeg < na - (nI a).toNatClampNeg ∨ na ≤ a := by
      rw [nI_1, cl_nI (by omega), cl_nI (by omega)]
      omega
    refine ⟨fun hle => ?_, fun hlt2 => ?_⟩
    · have : na ≤ a := (nI_leI (by omega) (by omega)).mp hle
      have ea : a = na := by omega
      subst ea
      refine hw _ _ ⟨i + 1, by omega, nI_1 i, fl_iff hs2 ⟨fun c => ⟨i, by omega, c⟩, fun ⟨k, hk, c⟩ => ?_⟩⟩ ?_
      · rcases Nat.lt_or_ge k i with q | q
        · exact absurd ⟨k, q, c⟩ no
        · have : k = i := by omega
          subst this
          exact c
      · rw [nI_1, cl_nI (by omega), cl_nI (by omega)]
        omega
    · have han := nI_leN (by omega) (by omega) hlt2
      have dec' : na - (nI a + 1).toNatClampNeg < na - (nI a).toNatClampNeg := by
        rcases dec with q | q
        · exact q
        · omega
      refine ⟨fun z2 => hw2 _ _ ⟨a + 1, by omega, nI_1 a, fl_0 (fun c => fl_no hs2 z2 (fun b hb => c b (by omega)))⟩ dec', fun z2 => ?_⟩
      obtain ⟨c, -⟩ := fl_yes hs2 z2
      have hm := (hl a han).2.1
      obtain ⟨e1, e2, e3⟩ := he a han
      refine x_at hV hin han ⟨vp_in_nI (by omega) (by decide), ?_⟩
      have step : vp_in ((((13 : Int32) * nI a) + nI (p a)) + nI (e a)) 52 ∧ (((number (((((13 : Int32) * nI a) + nI (p a)) + nI (e a))).toNatClampNeg) ≤ v i a → w2 (0 : Int32) (nI a + (1 : Int32))) ∧ (¬ (number (((((13 : Int32) * nI a) + nI (p a)) + nI (e a))).toNatClampNeg) ≤ v i a → w2 (1 : Int32) (nI a + (1 : Int32)))) := by
        have bl := lam_bd hV han (hl a han) e1
        rw [ix13, nI_add, cl_nI (by omega), Nat.add_assoc, (hM a han).2 _ e1, Int32.le_iff_toInt_le, iZ_toInt (by omega) (by omega)]
        refine ⟨vp_in_nI (by omega) (by decide), fun q => hw2 _ _ ⟨a + 1, by omega, nI_1 a, fl_0 (fun y => ?_)⟩ dec', fun q => hw2 _ _ ⟨a + 1, by omega, nI_1 a, fl_1 (fun b hb => ?_)⟩ dec'⟩
        · have := y a (by omega)
          omega
        · rcases Nat.lt_or_ge b a with q2 | q2
          · exact c b q2
          · have : b = a := by omega
            subst this
            omega
      rw [cl_nI (by omega), hp a han]
      unfold jn1
      refine ⟨fun q => ?_, fun q => ?_⟩
      · rw [e2 q] at step
        exact step
      · rw [e3 q] at step
        exact step
/-- a box, as the model has it -/
def isX (nf na : Nat) (v : Nat → Nat → Int32) (m : Nat → Nat) (lam : Nat → Nat → Int) (p : Nat → Nat) : Prop :=
  (¬ ∃ k, k < nf ∧ ∀ a, a < na → (v k a).toInt < lam a (p a)) ∧ ∀ a, a < na → p a = m a ∨ ∃ k, k < nf ∧ ∀ b, b < na → (v k b).toInt < lam b (p b + if b = a then 1 else 0)
theorem y_isBox (hV : FV na nf v scores FP PS) (hl : LVs nf na v m lam) (hM : MN na m lam number numbers) (hp : ∀ a, a < na → place a = nI (p a)) (hpm : ∀ a, a < na → p a ≤ m a) {post : Int32 → Prop}
    (h : ∀ r, fl r (isX nf na v m lam p) → post r) : wp_X7_isBox (nI na) (nI nf) FP number numbers place PS post := by
  have hV' := hV
  obtain ⟨v1, v2, v3⟩ := hV'
  unfold wp_X7_isBox
  refine y_someLess hV hl hM hp (e := fun _ => 0) (fun a ha => ⟨hpm a ha, fun q => ?_, fun _ => rfl⟩) (fun r hr => ?_)
  · exfalso
    have e1 := congrArg Int32.toInt q
    rw [nI_toInt (by omega)] at e1
    have : Int32.toInt (-1000000) = -1000000 := rfl
    omega
  · have hr' : fl r (∃ k, k < nf ∧ ∀ a, a < na → (v k a).toInt < lam a (p a)) := hr
    refine ⟨fun z => ?_, fun z => ?_⟩
    · have no := fl_no hr' z
      refine Lq2_inv (fun s aa => ∃ a : Nat, a ≤ na ∧ aa = nI a ∧ fl s (∀ a', a' < a → p a' = m a' ∨ ∃ k, k < nf ∧ ∀ b, b < na → (v k b).toInt < lam b (p b + if b = a' then 1 else 0))) (fun _ a => na - a.toNatClampNeg) ?_ _ _ ⟨0, Nat.zero_le _, rfl, fl_1 (fun b hb => absurd hb (Nat.not_lt_zero _))⟩
      rintro s aa ⟨a, ha, rfl, hs⟩ w hw
      unfold b_X7_isBox_17x
      refine ⟨fun hle => ?_, fun hlt => ⟨fun z2 => ?_, fun z2 => ?_⟩⟩
      · have : na ≤ a := (nI_leI (by omega) (by omega)).mp hle
        have ea : a = na := by omega
        subst ea
        exact ⟨fl_bz hs, h s (fl_iff hs ⟨fun c => ⟨no, c⟩, fun c => c.2⟩)⟩
      · have han := nI_leN (by omega) (by omega) hlt
        refine ⟨fl_bz hs, h s ?_⟩
        rw [z2]
        exact fl_0 (fun c => fl_no hs z2 (fun a' ha' => c.2 a' (by omega)))
      · have han := nI_leN (by omega) (by omega) hlt
        obtain ⟨c, -⟩ := fl_yes hs z2
        have hm := (hl a han).2.1
        have hpa := hpm a han
        have ha4 : vp_in (nI a) 4 := vp_in_nI (by omega) (by decide)
        have dec : na - (nI a + 1).toNatClampNeg < na - (nI a).toNatClampNeg := by
          rw [nI_1, cl_nI (by omega), cl_nI (by omega)]
          omega
        rw [cl_nI (by omega), hp a han, (hM a han).1, nI_pred]
        refine ⟨ha4, ha4, fun q => ?_, fun q => ?_⟩
        · refine hw _ _ ⟨a + 1, by omega, nI_1 a, fl_1 (fun a' ha' => ?_)⟩ dec
          rcases Nat.lt_or_ge a' a with q2 | q2
          · exact c a' q2
          · have : a' = a := by omega
            subst this
            exact Or.inl (nI_inj (by omega) (by omega) q)
        · have hlt2 : p a < m a := by
            rcases Nat.lt_or_ge (p a) (m a) with q2 | q2
            · exact q2
            · exact absurd (by rw [show p a = m a by omega]) q
          refine y_someLess hV hl hM hp (e := fun b => if b = a then 1 else 0) (fun b hb => ⟨?_, fun q2 => ?_, fun q2 => ?_⟩) (fun r2 hr2 => ⟨fun z3 => ?_, fun z3 => ?_⟩)
          · split
            · rename_i e
              rw [e]
              omega
            · have := hpm b hb
              omega
          · exact if_pos (nI_inj (by omega) (by omega) q2)
          · exact if_neg (fun e => q2 (by rw [e]))
          · refine hw _ _ ⟨a + 1, by omega, nI_1 a, fl_0 (fun y => ?_)⟩ dec
            rcases y a (by omega) with q2 | q2
            · omega
            · exact fl_no hr2 z3 q2
          · obtain ⟨c2, -⟩ := fl_yes hr2 z3
            refine hw _ _ ⟨a + 1, by omega, nI_1 a, fl_1 (fun a' ha' => ?_)⟩ dec
            rcases Nat.lt_or_ge a' a with q2 | q2
            · exact c a' q2
            · have : a' = a := by omega
              subst this
              exact Or.inr c2
    · obtain ⟨yes, -⟩ := fl_yes hr' z
      have k0 : bz (0 : Int32) ∧ post 0 := ⟨rfl, h 0 (fl_0 (fun c => c.1 yes))⟩
      refine Lq2_inv (fun s _ => s = 0) (fun _ _ => 0) ?_ _ _ rfl
      rintro s aa rfl w hw
      unfold b_X7_isBox_17
      exact ⟨fun _ => k0, fun _ => ⟨fun _ => k0, fun z => absurd rfl z⟩⟩
theorem LL_ex {f l : Nat → Int} {mm : Nat} (hl : LV nf f mm l) (C : Nat → Prop) : ∃ j, LL nf f mm l C j := by
  have key : ∀ n, n ≤ nf → ∃ j, j ≤ mm ∧ (∀ k, k < n → C k → l j ≤ f k) ∧ (j = mm ∨ ∃ k, k < n ∧ C k ∧ f k = l j) := by
    intro n
    induction n with
    | zero => exact fun _ => ⟨mm, Nat.le_refl _, fun k hk => absurd hk (Nat.not_lt_zero _), Or.inl rfl⟩
    | succ n ih =>
      intro hn
      obtain ⟨j, j1, j2, j3⟩ := ih (by omega)
      have keep : (C n → l j ≤ f n) → ∃ j, j ≤ mm ∧ (∀ k, k < n + 1 → C k → l j ≤ f k) ∧ (j = mm ∨ ∃ k, k < n + 1 ∧ C k ∧ f k = l j) := fun q => by
        refine ⟨j, j1, fun k hk c => ?_, ?_⟩
        · rcases Nat.lt_or_ge k n with z | z
          · exact j2 k z c
          · have : k = n := by omega
            subst this
            exact q c
        · rcases j3 with e | ⟨k, hk, c, e⟩
          · exact Or.inl e
          · exact Or.inr ⟨k, by omega, c, e⟩
      by_cases c : C n
      · rcases Int.lt_or_le (f n) (l j) with q | q
        · obtain ⟨i, hi, e⟩ := hl.2.2.2.2.1 n (by omega)
          refine ⟨i, by omega, fun k hk ck => ?_, Or.inr ⟨n, by omega, c, e⟩⟩
          rcases Nat.lt_or_ge k n with z | z
          · have := j2 k z ck
            omega
          · have : k = n := by omega
            subst this
            omega
        · exact keep (fun _ => q)
      · exact keep (fun z => absurd z c)
  exact key nf (Nat.le_refl _)
theorem qB_spec (hl : LVs nf (d + 1) v m lam) (p : Nat → Nat) : LL nf (fun k => (v k d).toInt) (m d) (lam d) (fun k => ∀ a, a < d → (v k a).toInt < lam a (p a)) (qB nf d v m lam p) := by
  obtain ⟨j, hj⟩ := LL_ex (hl d (by omega)) (fun k => ∀ a, a < d → (v k a).toInt < lam a (p a))
  unfold qB
  rw [qL_of (hl d (by omega)) hj]
  exact hj
theorem qV_spec (hl : LVs nf (d + 1) v m lam) (p : Nat → Nat) : LL nf (fun k => (v k d).toInt) (m d) (lam d) (fun k => ∀ a, a < d → (v k a).toInt ≤ lam a (p a)) (qV nf d v m lam p) := by
  obtain ⟨j, hj⟩ := LL_ex (hl d (by omega)) (fun k => ∀ a, a < d → (v k a).toInt ≤ lam a (p a))
  unfold qV
  rw [qL_of (hl d (by omega)) hj]
  exact hj
theorem qB_congr (hl : LVs nf (d + 1) v m lam) {p p' : Nat → Nat} (h : ∀ a, a < d → p a = p' a) : qB nf d v m lam p = qB nf d v m lam p' := by
  refine LL_unique (hl d (by omega)) (LL_congr (fun k hk => ?_) (qB_spec hl p)) (qB_spec hl p')
  constructor
  · intro c a ha
    rw [← h a ha]
    exact c a ha
  · intro c a ha
    rw [h a ha]
    exact c a ha
theorem zB_congr (hl : LVs nf (d + 1) v m lam) {p p' : Nat → Nat} (h : ∀ a, a < d → p a = p' a) {a : Nat} (ha : a < d + 1) : zB nf d v m lam p a = zB nf d v m lam p' a := by
  unfold zB
  rw [qB_congr hl h]
  by_cases q : a = d
  · subst q
    rw [zC_d, zC_d]
  · rw [zC_n q, zC_n q, h a (by omega)]
theorem isX_iff (hl : LVs nf (d + 1) v m lam) (hpm : ∀ a, a < d + 1 → p a ≤ m a) : isX nf (d + 1) v m lam p ↔ p d = qB nf d v m lam p ∧ isB nf d v m lam p := by
  obtain ⟨q1, q2, q3⟩ := qB_spec hl p
  have hld := hl d (by omega)
  have zE : ∀ a b, a < d → b < d + 1 → p d = qB nf d v m lam p → zupd (zB nf d v m lam p) a (lam a (p a + 1)) b = lam b (p b + if b = a then 1 else 0) := fun a b ha hb e => by
    by_cases q : b = a
    · subst q
      rw [zu_s, if_pos rfl]
    · rw [zu_n q, if_neg q]
      unfold zB
      by_cases z : b = d
      · subst z
        rw [zC_d, ← e]
        rfl
      · rw [zC_n z]
        rfl
  constructor
  · rintro ⟨h1, h2⟩
    have e : p d = qB nf d v m lam p := by
      refine LL_unique hld (C := fun k => ∀ a, a < d → (v k a).toInt < lam a (p a)) ⟨hpm d (by omega), fun k hk c => ?_, ?_⟩ ⟨q1, q2, q3⟩
      · rcases Int.lt_or_le (v k d).toInt (lam d (p d)) with z | z
        · refine absurd ⟨k, hk, fun a ha => ?_⟩ h1
          by_cases y : a = d
          · subst y
            exact z
          · exact c a (by omega)
        · exact z
      · rcases h2 d (by omega) with z | ⟨k, hk, c⟩
        · exact Or.inl z
        · have pc : ∀ a, a < d → (v k a).toInt < lam a (p a) := fun a ha => by
            have := c a (by omega)
            rw [if_neg (by omega)] at this
            exact this
          have cd := c d (by omega)
          rw [if_pos rfl] at cd
          have ge : lam d (p d) ≤ (v k d).toInt := by
            rcases Int.lt_or_le (v k d).toInt (lam d (p d)) with z | z
            · refine absurd ⟨k, hk, fun a ha => ?_⟩ h1
              by_cases y : a = d
              · subst y
                exact z
              · exact pc a (by omega)
            · exact z
          obtain ⟨i, hi, ei⟩ := hld.2.2.2.2.1 k hk
          dsimp only at ei
          by_cases zm : p d = m d
          · exact Or.inl zm
          · have hlt : p d < m d := by
              have := hpm d (by omega)
              omega
            have a1 : i < p d + 1 := (LV_lt hld (by omega) (by omega)).mp (by omega)
            have a2 : p d ≤ i := by
              rcases Nat.lt_or_ge i (p d) with y | y
              · have := hld.2.2.1 i (p d) y (by omega)
                omega
              · exact y
            have : i = p d := by omega
            subst this
            exact Or.inr ⟨k, hk, pc, ei⟩
    refine ⟨e, fun a ha => ?_⟩
    rcases h2 a (by omega) with z | ⟨k, hk, c⟩
    · exact Or.inl z
    · refine Or.inr ⟨k, hk, fun b hb => ?_⟩
      rw [zE a b ha hb e]
      exact c b hb
  · rintro ⟨e, hB⟩
    rw [← e] at q1 q2 q3
    refine ⟨fun ⟨k, hk, c⟩ => ?_, fun a ha => ?_⟩
    · have := q2 k hk (fun a ha => c a (by omega))
      have := c d (by omega)
      dsimp only at *
      omega
    · by_cases z : a = d
      · subst z
        rcases q3 with y | ⟨k, hk, c, ek⟩
        · exact Or.inl y
        · by_cases zm : p a = m a
          · exact Or.inl zm
          · refine Or.inr ⟨k, hk, fun b hb => ?_⟩
            by_cases y : b = a
            · subst y
              rw [if_pos rfl]
              have := hpm b ha
              have := hld.2.2.1 (p b) (p b + 1) (by omega) (by omega)
              dsimp only at ek
              omega
            · rw [if_neg y]
              exact c b (by omega)
      · rcases hB a (by omega) with y | ⟨k, hk, c⟩
        · exact Or.inl y
        · refine Or.inr ⟨k, hk, fun b hb => ?_⟩
          rw [← zE a b (by omega) hb e]
          exact c b hb
theorem isB_congr (hl : LVs nf (d + 1) v m lam) {p p' : Nat → Nat} (h : ∀ a, a < d → p a = p' a) (hB : isB nf d v m lam p) : isB nf d v m lam p' := fun a ha => by
  rcases hB a ha with z | ⟨k, hk, c⟩
  · rw [h a ha] at z
    exact Or.inl z
  · refine Or.inr ⟨k, hk, fun b hb => ?_⟩
    have := c b hb
    by_cases q : b = a
    · subst q
      rw [zu_s, ← h b ha]
      rw [zu_s] at this
      exact this
    · rw [zu_n q] at this ⊢
      rw [← zB_congr hl h hb]
      exact this
/-- the number whose digits a place holds -/
def hv (R : Nat → Nat) (f : Nat → Int32) : Nat → Nat
  | 0 => 0
  | n + 1 => hv R f n * R n + (f n).toNatClampNeg
theorem hv_dg {R : Nat → Nat} {f : Nat → Int32} : ∀ (n s : Nat), (∀ a, a < n → 1 ≤ R a ∧ R a ≤ 13) → s < wR R n → (∀ a, a < n → f a = nI (dg R n s a)) → hv R f n = s
  | 0, s, _, hs, _ => by
    have : wR R 0 = 1 := rfl
    show 0 = s
    omega
  | n + 1, s, hR, hs, hf => by
    have hRn := hR n (by omega)
    have ed : ∀ a, dg R (n + 1) s a = if a = n then s % R n else dg R n (s / R n) a := fun _ => rfl
    have hs2 : s < wR R n * R n := hs
    show hv R f n * R n + (f n).toNatClampNeg = s
    have hm : s % R n < R n := Nat.mod_lt _ (by omega)
    rw [hv_dg n (s / R n) (fun a ha => hR a (by omega)) ((Nat.div_lt_iff_lt_mul (by omega)).mpr hs2) (fun a ha => by rw [hf a (by omega), ed, if_neg (by omega)]), hf n (by omega), ed, if_pos rfl, cl_nI (by omega), Nat.mul_comm]
    exact Nat.div_add_mod s (R n)
/-- how many boxes before cell s -/
noncomputable def mc (nf d : Nat) (v : Nat → Nat → Int32) (m : Nat → Nat) (lam : Nat → Nat → Int) (s : Nat) : Nat := cP (iB nf d v m lam) (s / (m d + 1)) + @ite Nat (iB nf d v m lam (s / (m d + 1)) ∧ qB nf d v m lam (dg (fun a => m a + 1) d (s / (m d + 1))) < s % (m d + 1)) (Classical.propDecidable _) 1 0
def bX (nf d : Nat) (v : Nat → Nat → Int32) (m : Nat → Nat) (lam : Nat → Nat → Int) (s : Nat) : Prop := isX nf (d + 1) v m lam (dg (fun a => m a + 1) (d + 1) s)
theorem bX_iff (hl : LVs nf (d + 1) v m lam) {s : Nat} : bX nf d v m lam s ↔ s % (m d + 1) = qB nf d v m lam (dg (fun a => m a + 1) d (s / (m d + 1))) ∧ iB nf d v m lam (s / (m d + 1)) := by
  have hpm : ∀ a, a < d + 1 → dg (fun a => m a + 1) (d + 1) s a ≤ m a := fun a ha => by
    have : dg (fun a => m a + 1) (d + 1) s a < m a + 1 := dg_lt (d + 1) s a (fun a _ => by show 1 ≤ m a + 1; omega) ha
    omega
  have eD : ∀ a, a < d → dg (fun a => m a + 1) (d + 1) s a = dg (fun a => m a + 1) d (s / (m d + 1)) a := fun a ha => if_neg (by omega)
  have ed : dg (fun a => m a + 1) (d + 1) s d = s % (m d + 1) := if_pos rfl
  unfold bX
  rw [isX_iff hl hpm, ed, qB_congr hl eD]
  exact ⟨fun h => ⟨h.1, isB_congr hl eD h.2⟩, fun h => ⟨h.1, isB_congr hl (fun a ha => (eD a ha).symm) h.2⟩⟩
theorem mc_step (hl : LVs nf (d + 1) v m lam) {s : Nat} : mc nf d v m lam (s + 1) = mc nf d v m lam s + @ite Nat (bX nf d v m lam s) (Classical.propDecidable _) 1 0 := by
  have hq := (qB_spec hl (dg (fun a => m a + 1) d (s / (m d + 1)))).1
  have hmod : s % (m d + 1) < m d + 1 := Nat.mod_lt _ (by omega)
  have hb := bX_iff hl (s := s)
  by_cases hi : iB nf d v m lam (s / (m d + 1))
  · by_cases e : s % (m d + 1) + 1 < m d + 1
    · obtain ⟨e1, e2⟩ := dv1 e
      unfold mc
      rw [e1, e2]
      rcases Nat.lt_trichotomy (qB nf d v m lam (dg (fun a => m a + 1) d (s / (m d + 1)))) (s % (m d + 1)) with q | q | q
      · rw [if_pos ⟨hi, by omega⟩, if_pos ⟨hi, q⟩, if_neg (fun z => by have := (hb.mp z).1; omega)]
      · rw [if_pos ⟨hi, by omega⟩, if_neg (fun z => by omega), if_pos (hb.mpr ⟨q.symm, hi⟩)]
      · rw [if_neg (fun z => by omega), if_neg (fun z => by omega), if_neg (fun z => by have := (hb.mp z).1; omega)]
    · have e' : s % (m d + 1) + 1 = m d + 1 := by omega
      obtain ⟨e1, e2⟩ := dv2 e'
      unfold mc
      rw [e1, e2, cP_yes hi, if_neg (fun z => by omega)]
      rcases Nat.lt_trichotomy (qB nf d v m lam (dg (fun a => m a + 1) d (s / (m d + 1)))) (s % (m d + 1)) with q | q | q
      · rw [if_pos ⟨hi, q⟩, if_neg (fun z => by have := (hb.mp z).1; omega)]
      · rw [if_neg (fun z => by omega), if_pos (hb.mpr ⟨q.symm, hi⟩)]
      · omega
  · rw [if_neg (fun z => hi (hb.mp z).2)]
    by_cases e : s % (m d + 1) + 1 < m d + 1
    · obtain ⟨e1, e2⟩ := dv1 e
      unfold mc
      rw [e1, if_neg (fun z => hi z.1), if_neg (fun z => hi z.1)]
    · have e' : s % (m d + 1) + 1 = m d + 1 := by omega
      obtain ⟨e1, e2⟩ := dv2 e'
      unfold mc
      rw [e1, e2, cP_no hi, if_neg (fun z => by omega), if_neg (fun z => hi z.1)]
theorem mc_end {T : Nat} : mc nf d v m lam (T * (m d + 1)) = cP (iB nf d v m lam) T := by
  unfold mc
  rw [Nat.mul_mod_left, Nat.mul_div_cancel _ (by omega), if_neg (fun z => by omega), Nat.add_zero]
theorem y_goBoxes (hV : FV (d + 1) nf v scores FP PS) (hn0 : 0 < nf) (hl : LVs nf (d + 1) v m lam) {n : Nat} (hn : n ≤ 100000) {post : Int32 → (Nat → Int32) → (Nat → Int32) → (Nat → Int32) → Prop}
    (hA : ∀ (t : Nat) (nb nbs pl : Nat → Int32), t < wR (fun a => m a + 1) d → iB nf d v m lam t → cP (iB nf d v m lam) t = n → MN (d + 1) m lam nb nbs → (∀ a, a < d → pl a = nI (dg (fun a => m a + 1) d t a)) → pl d = nI (qB nf d v m lam (dg (fun a => m a + 1) d t)) → post (nI (n + 1)) nb nbs pl)
    (hB : ∀ nb nbs pl : Nat → Int32, cP (iB nf d v m lam) (wR (fun a => m a + 1) d) ≤ n → post (nI (cP (iB nf d v m lam) (wR (fun a => m a + 1) d))) nb nbs pl) :
    wp_X7_goBoxes (nI (d + 1)) (nI nf) FP number numbers place PS (nI n) post := by
  have hV' := hV
  obtain ⟨v1, v2, v3⟩ := hV'
  have hR : ∀ a, a < d + 1 → 1 ≤ (fun a => m a + 1) a ∧ (fun a => m a + 1) a ≤ 13 := fun a ha => by
    have := (hl a ha).2.1
    show 1 ≤ m a + 1 ∧ m a + 1 ≤ 13
    omega
  unfold wp_X7_goBoxes
  refine y_firstPlace hV hn0 hl (fun nb nbs pl hM hz => ?_)
  have hN : wR (fun a => m a + 1) (d + 1) = wR (fun a => m a + 1) d * (m d + 1) := rfl
  have hTp := wR_pos (R := fun a => m a + 1) (d + 1) (fun a ha => (hR a ha).1)
  have hdiv : ∀ s, s < wR (fun a => m a + 1) (d + 1) → s / (m d + 1) < wR (fun a => m a + 1) d := fun s hs => (Nat.div_lt_iff_lt_mul (by omega)).mpr hs
  have hT := wR_2197 (R := fun a => m a + 1) (d := d) (by omega) (fun a ha => (hR a (by omega)).2)
  have mcl : ∀ s, s < wR (fun a => m a + 1) (d + 1) → mc nf d v m lam s ≤ 2198 := fun s hs => by
    have h1 := hdiv s hs
    have h2 := cP_le (Pl := iB nf d v m lam) (s / (m d + 1))
    unfold mc
    split <;> omega
  refine Lq3_inv (fun met more pl => (more = 1 ∧ ∃ s : Nat, s < wR (fun a => m a + 1) (d + 1) ∧ met = nI (mc nf d v m lam s) ∧ mc nf d v m lam s ≤ n ∧ ∀ a, a < d + 1 → pl a = nI (dg (fun a => m a + 1) (d + 1) s a)) ∨ (more = 0 ∧ post met nb nbs pl)) (fun _ more pl => if more = 0 then 0 else 1 + (wR (fun a => m a + 1) (d + 1) - hv (fun a => m a + 1) pl (d + 1))) ?_ _ _ _ (Or.inl ⟨rfl, 0, by omega, ?_, ?_, fun a ha => ?_⟩)
  · rintro met more pl' (⟨rfl, s, hs, rfl, hle, hpl⟩ | ⟨rfl, hp⟩) w hw
    · unfold b_X7_goBoxes_8
      refine ⟨fun z => absurd z (by decide), fun _ => ?_⟩
      have hpm : ∀ a, a < d + 1 → dg (fun a => m a + 1) (d + 1) s a ≤ m a := fun a ha => by
        have : dg (fun a => m a + 1) (d + 1) s a < m a + 1 := dg_lt (d + 1) s a (fun a ha => (hR a ha).1) ha
        omega
      have ehv : hv (fun a => m a + 1) pl' (d + 1) = s := hv_dg (d + 1) s hR hs hpl
      rw [if_neg (by decide), ehv] at hw
      have eD : ∀ a, a < d → dg (fun a => m a + 1) (d + 1) s a = dg (fun a => m a + 1) d (s / (m d + 1)) a := fun a ha => if_neg (by omega)
      have ed : dg (fun a => m a + 1) (d + 1) s d = s % (m d + 1) := if_pos rfl
      refine y_isBox hV hl hM hpl hpm (fun r hr => ?_)
      have hr' : fl r (bX nf d v m lam s) := hr
      have hml := mcl s hs
      have go : ∀ y : Nat, y = mc nf d v m lam (s + 1) → (n < y → bX nf d v m lam s ∧ y = mc nf d v m lam s + 1) → ((nI n < nI y → w (nI y) (0 : Int32) pl') ∧ (¬ nI n < nI y → wp_X7_nextPlace (nI (d + 1)) nbs pl' (0 : Int32) (fun (r_34 : Int32) (c_this_place_34 : Nat → Int32) => ((r_34 = 0 → w (nI y) (0 : Int32) c_this_place_34) ∧ (¬ r_34 = 0 → w (nI y) (1 : Int32) c_this_place_34))))) := fun y ey hy => by
        have hyl : y ≤ 2200 := by
          rw [ey, mc_step hl]
          split <;> omega
        refine ⟨fun q => ?_, fun q => ?_⟩
        · have q' := (nI_ltI (by omega) (by omega)).mp q
          obtain ⟨hb, e1⟩ := hy q'
          refine hw _ _ _ (Or.inr ⟨rfl, ?_⟩) ?_
          · obtain ⟨b1, b2⟩ := (bX_iff hl).mp hb
            have emc : mc nf d v m lam s = cP (iB nf d v m lam) (s / (m d + 1)) := by
              unfold mc
              rw [if_neg (fun z => by omega), Nat.add_zero]
            have ey2 : y = n + 1 := by omega
            rw [ey2]
            refine hA (s / (m d + 1)) nb nbs pl' (hdiv s hs) b2 (by omega) hM (fun a ha => ?_) ?_
            · rw [hpl a (by omega), eD a ha]
            · rw [hpl d (by omega), ed, b1]
          · rw [if_pos rfl]
            omega
        · have q' : y ≤ n := by
            rcases Nat.lt_or_ge n y with z | z
            · exact absurd ((nI_ltI (by omega) (by omega)).mpr z) q
            · exact z
          refine y_nextPlace (d := d + 1) (m := m) (less := 0) (by omega) (by omega) (fun a ha => ⟨(hl a ha).1, (hl a ha).2.1⟩) (fun a ha => (hM a ha).1) (t := s) hs hpl (fun z g' g1 => ⟨fun z => absurd z (by decide), fun _ => ?_⟩) (fun z g' g1 => ⟨fun _ => ?_, fun z => absurd rfl z⟩)
          · refine hw _ _ _ (Or.inl ⟨rfl, s + 1, z, by rw [ey], by omega, g1⟩) ?_
            have e3 : hv (fun a => m a + 1) g' (d + 1) = s + 1 := hv_dg (d + 1) (s + 1) hR z g1
            rw [if_neg (by decide), e3]
            have z' : s + 1 < wR (fun a => m a + 1) (d + 1) := z
            omega
          · have z' : s + 1 = wR (fun a => m a + 1) d * (m d + 1) := z
            refine hw _ _ _ (Or.inr ⟨rfl, ?_⟩) ?_
            · rw [z', mc_end] at ey
              rw [ey]
              exact hB nb nbs g' (by omega)
            · rw [if_pos rfl]
              omega
      unfold jn1
      refine ⟨fun z => ?_, fun z => ?_⟩
      · have nb' := fl_no hr' z
        have e1 : mc nf d v m lam (s + 1) = mc nf d v m lam s := by
          rw [mc_step hl, if_neg nb', Nat.add_zero]
        have g := go (mc nf d v m lam s) e1.symm (fun q => absurd q (by omega))
        dsimp only
        rw [show nI (mc nf d v m lam s) + (0 : Int32) = nI (mc nf d v m lam s) from Int32.add_zero _]
        exact g
      · obtain ⟨yb, -⟩ := fl_yes hr' z
        have e1 : mc nf d v m lam (s + 1) = mc nf d v m lam s + 1 := by
          rw [mc_step hl, if_pos yb]
        have g := go (mc nf d v m lam s + 1) e1.symm (fun _ => ⟨yb, rfl⟩)
        rw [nI_1]
        exact g
    · unfold b_X7_goBoxes_8
      exact ⟨fun _ => hp, fun z => absurd rfl z⟩
  · unfold mc
    rw [Nat.zero_div, Nat.zero_mod, if_neg (fun z => by omega)]
    rfl
  · unfold mc
    rw [Nat.zero_div, Nat.zero_mod, if_neg (fun z => by omega)]
    exact Nat.zero_le _
  · rw [dg_zero]
    exact hz a (by omega)
end MB

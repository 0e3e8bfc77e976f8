/-! ===== weighted, first, under, plan, left ===== -/
noncomputable def bestF (less : Nat → Nat → Prop) : Nat → Nat
  | 0 => 0
  | n + 1 => @ite Nat (less (n + 1) (bestF less n)) (Classical.propDecidable _) (n + 1) (bestF less n)
theorem bestF_yes {less : Nat → Nat → Prop} {n : Nat} (h : less (n + 1) (bestF less n)) : bestF less (n + 1) = n + 1 := if_pos h
theorem bestF_no {less : Nat → Nat → Prop} {n : Nat} (h : ¬ less (n + 1) (bestF less n)) : bestF less (n + 1) = bestF less n := if_neg h
theorem bestF_le {less : Nat → Nat → Prop} : ∀ (n : Nat), bestF less n ≤ n
  | 0 => Nat.le_refl 0
  | n + 1 => by
    have := bestF_le (less := less) n
    by_cases h : less (n + 1) (bestF less n)
    · rw [bestF_yes h]
      exact Nat.le_refl _
    · rw [bestF_no h]
      omega
def q4 (x1 x2 x3 x4 : Int32) : Nat → Int32 := fun a => if a = 0 then x1 else if a = 1 then x2 else if a = 2 then x3 else x4
theorem q4_upd {f : Nat → Int32} {x1 x2 x3 x4 : Int32} : ∀ a, a < 4 → upd (upd (upd (upd f ((0 : Int32)).toNatClampNeg x1) ((1 : Int32)).toNatClampNeg x2) ((2 : Int32)).toNatClampNeg x3) ((3 : Int32)).toNatClampNeg x4 a = q4 x1 x2 x3 x4 a := fun a ha => by
  have e0 : ((0 : Int32)).toNatClampNeg = 0 := rfl
  have e1 : ((1 : Int32)).toNatClampNeg = 1 := rfl
  have e2 : ((2 : Int32)).toNatClampNeg = 2 := rfl
  have e3 : ((3 : Int32)).toNatClampNeg = 3 := rfl
  rw [e0, e1, e2, e3]
  have hm : a = 0 ∨ a = 1 ∨ a = 2 ∨ a = 3 := by omega
  rcases hm with e | e | e | e <;> subst e
  · rw [upd_n (by omega), upd_n (by omega), upd_n (by omega), upd_s]
    rfl
  · rw [upd_n (by omega), upd_n (by omega), upd_s]
    rfl
  · rw [upd_n (by omega), upd_s]
    rfl
  · rw [upd_s]
    rfl
theorem w_ask {f : Nat → Int32} {x1 x2 x3 x4 : Int32} {post : (Nat → Int32) → Prop} (h : ∀ g, (∀ a, a < 4 → g a = q4 x1 x2 x3 x4 a) → post g) : wp_X6_ask f x1 x2 x3 x4 post := by
  unfold wp_X6_ask
  exact ⟨vp_in_nI (n := 0) (by omega) (by decide), vp_in_nI (n := 1) (by omega) (by decide), vp_in_nI (n := 2) (by omega) (by decide), vp_in_nI (n := 3) (by omega) (by decide), h _ q4_upd⟩
theorem w_take {f : Nat → Int32} {x1 x2 x3 x4 : Int32} {post : (Nat → Int32) → Prop} (h : ∀ g, (∀ a, a < 4 → g a = q4 x1 x2 x3 x4 a) → post g) : wp_X7_take f x1 x2 x3 x4 post := by
  unfold wp_X7_take
  exact ⟨vp_in_nI (n := 0) (by omega) (by decide), vp_in_nI (n := 1) (by omega) (by decide), vp_in_nI (n := 2) (by omega) (by decide), vp_in_nI (n := 3) (by omega) (by decide), h _ q4_upd⟩
/-- a sum of products as a whole number -/
def wZ (t u : Nat → Int32) : Nat → Int
  | 0 => 0
  | n + 1 => wZ t u n + (t n).toInt * (u n).toInt
theorem sumN_wZ {t u : Nat → Int32} : ∀ (n : Nat), sumN t u n = iZ (wZ t u n)
  | 0 => rfl
  | n + 1 => by
    show sumN t u n + t n * u n = iZ (wZ t u n + (t n).toInt * (u n).toInt)
    rw [← iZ_add, ← iZ_mul, iZ_of, iZ_of, sumN_wZ n]
theorem wZ_bd {t u : Nat → Int32} : ∀ (n : Nat), n ≤ 4 → (∀ a, a < n → 0 ≤ (t a).toInt ∧ (t a).toInt ≤ 100 ∧ -2000 ≤ (u a).toInt ∧ (u a).toInt ≤ 2000) → -(200000 * (n : Int)) ≤ wZ t u n ∧ wZ t u n ≤ 200000 * n
  | 0, _, _ => by
    show -(200000 * ((0 : Nat) : Int)) ≤ 0 ∧ (0 : Int) ≤ 200000 * ((0 : Nat) : Int)
    omega
  | n + 1, hn, h => by
    have ih := wZ_bd n (by omega) (fun a ha => h a (by omega))
    obtain ⟨a1, a2, a3, a4⟩ := h n (by omega)
    have hm := abs_mul_le (X := 100) (Y := 2000) (x := (t n).toInt) (y := (u n).toInt) ⟨by omega, a2⟩ ⟨a3, a4⟩
    show -(200000 * ((n + 1 : Nat) : Int)) ≤ wZ t u n + (t n).toInt * (u n).toInt ∧ wZ t u n + (t n).toInt * (u n).toInt ≤ 200000 * ((n + 1 : Nat) : Int)
    generalize (t n).toInt * (u n).toInt = z at hm ⊢
    omega
theorem wZ_congr {t t' u : Nat → Int32} : ∀ (n : Nat), (∀ a, a < n → t a = t' a) → wZ t u n = wZ t' u n
  | 0, _ => rfl
  | n + 1, h => by
    show wZ t u n + (t n).toInt * (u n).toInt = wZ t' u n + (t' n).toInt * (u n).toInt
    rw [wZ_congr n (fun a ha => h a (by omega)), h n (by omega)]
section C
variable {na nf : Nat} {v : Nat → Nat → Int32} {scores : Nat → Int64} {FP PS : Nat → Int32}
theorem x_lightest (hV : FV na nf v scores FP PS) (hnf : 0 < nf) {t : Nat → Int32} (ht : ∀ a, a < na → 0 ≤ (t a).toInt ∧ (t a).toInt ≤ 100) {post : Int32 → Prop} (h : post (nI (bestF (fun k o => wZ t (v k) na < wZ t (v o) na) (nf - 1)))) : wp_X3_lightest t scores (nI nf) (nI na) post := by
  have hV' := hV
  obtain ⟨h1, h2, h3⟩ := hV'
  have bd : ∀ k, k < nf → -800000 ≤ wZ t (v k) na ∧ wZ t (v k) na ≤ 800000 := fun k hk => by
    have := wZ_bd (t := t) (u := v k) na h2 (fun a ha => ⟨(ht a ha).1, (ht a ha).2, (h3 k hk).1 a ha⟩)
    omega
  unfold wp_X3_lightest
  refine Lq3_inv (fun b s i => ∃ j : Nat, j ≤ nf ∧ i = nI j ∧ ((j = 0 ∧ b = 0 ∧ s = 2147483647) ∨ (0 < j ∧ b = nI (bestF (fun k o => wZ t (v k) na < wZ t (v o) na) (j - 1)) ∧ s = iZ (wZ t (v (bestF (fun k o => wZ t (v k) na < wZ t (v o) na) (j - 1))) na)))) (fun _ _ i => nf - i.toNatClampNeg) ?_ _ _ _ ⟨0, Nat.zero_le _, rfl, Or.inl ⟨rfl, rfl, rfl⟩⟩
  rintro b s i ⟨j, hj, rfl, hb⟩ w hw
  unfold b_X3_lightest_9
  refine ⟨fun hle => ?_, fun hlt => ?_⟩
  · have : nf ≤ j := (nI_leI (by omega) (by omega)).mp hle
    have : j = nf := by omega
    subst this
    rcases hb with hb | hb
    · omega
    · rw [hb.2.1]
      exact h
  · have hjn := nI_leN (by omega) (by omega) hlt
    have dec : nf - (nI j + 1).toNatClampNeg < nf - (nI j).toNatClampNeg := by
      rw [nI_1, cl_nI (by omega), cl_nI (by omega)]
      omega
    refine Lq2_inv (fun z i => ∃ a : Nat, a ≤ na ∧ i = nI a ∧ z = sumN t (v j) a) (fun _ i => na - i.toNatClampNeg) ?_ _ _ ⟨0, Nat.zero_le _, rfl, rfl⟩
    rintro z i ⟨a, ha, rfl, rfl⟩ w2 hw2
    unfold b_X3_lightest_24
    refine ⟨fun hle => ?_, fun hlt2 => ?_⟩
    · have : na ≤ a := (nI_leI (by omega) (by omega)).mp hle
      have : a = na := by omega
      subst this
      rw [sumN_wZ]
      have bj := bd j hjn
      rcases hb with ⟨rfl, rfl, rfl⟩ | ⟨hj0, rfl, rfl⟩
      · refine ⟨fun q => ?_, fun q => ?_⟩
        · rw [show (2147483647 : Int32) = iZ 2147483647 from rfl, iZ_le (by omega) (by omega)] at q
          omega
        · exact hw _ _ _ ⟨0 + 1, by omega, nI_1 0, Or.inr ⟨by omega, rfl, rfl⟩⟩ dec
      · have bl := bestF_le (less := fun k o => wZ t (v k) a < wZ t (v o) a) (j - 1)
        have bb := bd (bestF (fun k o => wZ t (v k) a < wZ t (v o) a) (j - 1)) (by omega)
        have ej : j - 1 + 1 = j := by omega
        refine ⟨fun q => ?_, fun q => ?_⟩
        · rw [iZ_le (by omega) (by omega)] at q
          have e := bestF_no (less := fun k o => wZ t (v k) a < wZ t (v o) a) (n := j - 1) (by show ¬ _ < _; rw [ej]; omega)
          rw [ej] at e
          exact hw _ _ _ ⟨j + 1, by omega, nI_1 j, Or.inr ⟨by omega, by rw [Nat.add_sub_cancel, e], by rw [Nat.add_sub_cancel, e]⟩⟩ dec
        · rw [iZ_le (by omega) (by omega)] at q
          have e := bestF_yes (less := fun k o => wZ t (v k) a < wZ t (v o) a) (n := j - 1) (by show _ < _; rw [ej]; omega)
          rw [ej] at e
          exact hw _ _ _ ⟨j + 1, by omega, nI_1 j, Or.inr ⟨by omega, by rw [Nat.add_sub_cancel, e], by rw [Nat.add_sub_cancel, e]⟩⟩ dec
    · have han := nI_leN (by omega) (by omega) hlt2
      refine ⟨vp_in_nI (by omega) (by decide), x_num hV hjn han (hw2 _ _ ⟨a + 1, by omega, nI_1 a, ?_⟩ ?_)⟩
      · rw [cl_nI (by omega)]
        rfl
      · rw [nI_1, cl_nI (by omega), cl_nI (by omega)]
        omega
theorem y_weigh (hV : FV na nf v scores FP PS) {t : Nat → Int32} {k : Nat} (hk : k < nf) {post : Int64 → Prop} (h : post (jZ (wZ t (v k) na))) : wp_X7_weigh (nI na) t FP PS (nI k) post := by
  have hV' := hV
  obtain ⟨h1, h2, h3⟩ := hV'
  unfold wp_X7_weigh
  refine Lq2_inv (fun z i => ∃ a : Nat, a ≤ na ∧ i = nI a ∧ z = jZ (wZ t (v k) a)) (fun _ i => na - i.toNatClampNeg) ?_ _ _ ⟨0, Nat.zero_le _, rfl, rfl⟩
  rintro z i ⟨a, ha, rfl, rfl⟩ w hw
  unfold b_X7_weigh_5
  refine ⟨fun hle => ?_, fun hlt => ?_⟩
  · have : na ≤ a := (nI_leI (by omega) (by omega)).mp hle
    have : a = na := by omega
    subst this
    exact h
  · have han := nI_leN (by omega) (by omega) hlt
    refine ⟨vp_in_nI (by omega) (by decide), x_at hV hk han (hw _ _ ⟨a + 1, by omega, nI_1 a, ?_⟩ ?_)⟩
    · rw [cl_nI (by omega)]
      have e1 : ∀ x : Int32, x.toInt64 = jZ x.toInt := fun x => by
        rw [← Int64.toInt_inj, Int32.toInt_toInt64, jZ_toInt]
        · have := x.le_toInt
          omega
        · have := x.toInt_lt
          omega
      rw [e1, e1, jZ_mul, jZ_add]
      rfl
    · rw [nI_1, cl_nI (by omega), cl_nI (by omega)]
      omega
theorem m_weighted (hV : FV na nf v scores FP PS) {asked four : Nat → Int32} {x1 x2 x3 x4 : Int32} {K : Int32 → (Nat → Int32) → Int32 → (Nat → Int32) → Prop} (hK : ∀ r f g, K r f r g) :
    wp_X6_weighted asked scores (nI nf) (nI na) x1 x2 x3 x4 (fun r f => wp_X7_weighted (nI na) four (nI nf) FP PS x1 x2 x3 x4 (fun r' g => K r f r' g)) := by
  have hV' := hV
  obtain ⟨h1, h2, h3⟩ := hV'
  -- the model's side, for an answer that is known
  have model : ∀ (r : Int32) (f : Nat → Int32), ((¬ ∀ a, a < na → 0 ≤ (q4 x1 x2 x3 x4 a).toInt ∧ (q4 x1 x2 x3 x4 a).toInt ≤ 100) → r = -1000001) → ((∀ a, a < na → 0 ≤ (q4 x1 x2 x3 x4 a).toInt ∧ (q4 x1 x2 x3 x4 a).toInt ≤ 100) → (nf = 0 ∨ ∀ a, a < na → q4 x1 x2 x3 x4 a = 0) → r = -1000002) → ((∀ a, a < na → 0 ≤ (q4 x1 x2 x3 x4 a).toInt ∧ (q4 x1 x2 x3 x4 a).toInt ≤ 100) → 0 < nf → (¬ ∀ a, a < na → q4 x1 x2 x3 x4 a = 0) → r = nI (bestF (fun k o => wZ (q4 x1 x2 x3 x4) (v k) na < wZ (q4 x1 x2 x3 x4) (v o) na) (nf - 1))) → wp_X7_weighted (nI na) four (nI nf) FP PS x1 x2 x3 x4 (fun r' g => K r f r' g) := by
    intro r f r1 r2 r3
    unfold wp_X7_weighted
    refine w_take (fun g hg => ?_)
    refine Lq3_inv (fun p n i => ∃ j : Nat, j ≤ na ∧ i = nI j ∧ fl p (∀ a, a < j → 0 ≤ (q4 x1 x2 x3 x4 a).toInt ∧ (q4 x1 x2 x3 x4 a).toInt ≤ 100) ∧ fl n (∀ a, a < j → q4 x1 x2 x3 x4 a = 0)) (fun _ _ i => na - i.toNatClampNeg) ?_ _ _ _ ⟨0, Nat.zero_le _, rfl, fl_1 (fun a h => absurd h (Nat.not_lt_zero _)), fl_1 (fun a h => absurd h (Nat.not_lt_zero _))⟩
    rintro p n i ⟨j, hj, rfl, hp, hn⟩ w hw
    unfold b_X7_weighted_18
    refine ⟨fun hle => ?_, fun hlt => ?_⟩
    · have : na ≤ j := (nI_leI (by omega) (by omega)).mp hle
      have : j = na := by omega
      subst this
      refine ⟨fun z => ?_, fun z => nf_z (by omega) (fun e => ?_) (fun hnf => ⟨fun y => ?_, fun y => ?_⟩)⟩
      · rw [r1 (fl_no hp z)]
        exact hK _ _ _
      · rw [r2 (fl_yes hp z).1 (Or.inl e)]
        exact hK _ _ _
      · rw [r3 (fl_yes hp z).1 hnf (fl_no hn y)]
        have ht := (fl_yes hp z).1
        have bd : ∀ k, k < nf → -800000 ≤ wZ (q4 x1 x2 x3 x4) (v k) j ∧ wZ (q4 x1 x2 x3 x4) (v k) j ≤ 800000 := fun k hk => by
          have := wZ_bd (t := q4 x1 x2 x3 x4) (u := v k) j h2 (fun a ha => ⟨(ht a ha).1, (ht a ha).2, (h3 k hk).1 a ha⟩)
          omega
        have eg : ∀ k, wZ g (v k) j = wZ (q4 x1 x2 x3 x4) (v k) j := fun k => wZ_congr j (fun a ha => hg a (by omega))
        refine Lq2_inv (fun b i => ∃ m : Nat, m + 1 ≤ nf ∧ i = nI (m + 1) ∧ b = nI (bestF (fun k o => wZ (q4 x1 x2 x3 x4) (v k) j < wZ (q4 x1 x2 x3 x4) (v o) j) m)) (fun _ i => nf - i.toNatClampNeg) ?_ _ _ ⟨0, by omega, rfl, rfl⟩
        rintro b i ⟨m, hm, rfl, rfl⟩ w2 hw2
        unfold b_X7_weighted_114
        refine ⟨fun hle => ?_, fun hlt => ?_⟩
        · have : nf ≤ m + 1 := (nI_leI (by omega) (by omega)).mp hle
          have : nf - 1 = m := by omega
          rw [this]
          exact hK _ _ _
        · have hmn := nI_leN (by omega) (by omega) hlt
          have bl := bestF_le (less := fun k o => wZ (q4 x1 x2 x3 x4) (v k) j < wZ (q4 x1 x2 x3 x4) (v o) j) m
          have dec : nf - (nI (m + 1) + 1).toNatClampNeg < nf - (nI (m + 1)).toNatClampNeg := by
            rw [nI_1, cl_nI (by omega), cl_nI (by omega)]
            omega
          have b1 := bd (m + 1) hmn
          have b2 := bd (bestF (fun k o => wZ (q4 x1 x2 x3 x4) (v k) j < wZ (q4 x1 x2 x3 x4) (v o) j) m) (by omega)
          refine y_weigh hV hmn (y_weigh hV (by omega) ?_)
          rw [eg, eg]
          refine ⟨fun q => ?_, fun q => ?_⟩
          · rw [jZ_le (by omega) (by omega)] at q
            have e := bestF_no (less := fun k o => wZ (q4 x1 x2 x3 x4) (v k) j < wZ (q4 x1 x2 x3 x4) (v o) j) (n := m) (by show ¬ _ < _; omega)
            exact hw2 _ _ ⟨m + 1, by omega, nI_1 _, by rw [e]⟩ dec
          · rw [jZ_le (by omega) (by omega)] at q
            have e := bestF_yes (less := fun k o => wZ (q4 x1 x2 x3 x4) (v k) j < wZ (q4 x1 x2 x3 x4) (v o) j) (n := m) (by show _ < _; omega)
            exact hw2 _ _ ⟨m + 1, by omega, nI_1 _, by rw [e]⟩ dec
      · rw [r2 (fl_yes hp z).1 (Or.inr (fl_yes hn y).1)]
        exact hK _ _ _
    · have hjn := nI_leN (by omega) (by omega) hlt
      have hin : vp_in (nI j) 4 := vp_in_nI (by omega) (by decide)
      have dec : na - (nI j + 1).toNatClampNeg < na - (nI j).toNatClampNeg := by
        rw [nI_1, cl_nI (by omega), cl_nI (by omega)]
        omega
      unfold jn1
      have next : ∀ s, fl s (∀ a, a < j + 1 → 0 ≤ (q4 x1 x2 x3 x4 a).toInt ∧ (q4 x1 x2 x3 x4 a).toInt ≤ 100) → (n = 0 → w s (0 : Int32) (nI j + (1 : Int32))) ∧ (¬ n = 0 → vp_in (nI j) 4 ∧ ((g (nI j).toNatClampNeg = 0 → w s (1 : Int32) (nI j + (1 : Int32))) ∧ (¬ g (nI j).toNatClampNeg = 0 → w s (0 : Int32) (nI j + (1 : Int32))))) := fun s hs => by
        rw [cl_nI (by omega), hg j (by omega)]
        refine ⟨fun z => ?_, fun z => ⟨hin, fun y => ?_, fun y => ?_⟩⟩
        · exact hw _ _ _ ⟨j + 1, by omega, nI_1 j, hs, fl_0 (fun x => fl_no hn z (fun a ha => x a (by omega)))⟩ dec
        · exact hw _ _ _ ⟨j + 1, by omega, nI_1 j, hs, fl_1 (all_succ.mpr ⟨(fl_yes hn z).1, y⟩)⟩ dec
        · exact hw _ _ _ ⟨j + 1, by omega, nI_1 j, hs, fl_0 (fun x => y (x j (by omega)))⟩ dec
      refine ⟨fun z => next 0 (fl_0 (fun x => fl_no hp z (fun a ha => x a (by omega)))), fun z => ⟨hin, ?_⟩⟩
      have gj : g (nI j).toNatClampNeg = q4 x1 x2 x3 x4 j := by
        rw [cl_nI (by omega), hg j (by omega)]
      rw [gj]
      refine w_inI (a := 0) (b := 100) (fun q1 q2 => ⟨fun y => absurd y (by decide), fun _ => ?_⟩) (fun q => ⟨fun _ => ?_, fun y => absurd rfl y⟩)
      · have nx := next 1 (fl_1 (all_succ.mpr ⟨(fl_yes hp z).1, q1, q2⟩))
        rw [gj] at nx
        exact nx
      · have nx := next 0 (fl_0 (fun x => q (x j (by omega))))
        rw [gj] at nx
        exact nx
  unfold wp_X6_weighted
  refine w_ask (fun f hf => ?_)
  refine Lq2_inv (fun n i => ∃ j : Nat, j ≤ na ∧ i = nI j ∧ (∀ a, a < j → 0 ≤ (q4 x1 x2 x3 x4 a).toInt ∧ (q4 x1 x2 x3 x4 a).toInt ≤ 100) ∧ fl n (∀ a, a < j → q4 x1 x2 x3 x4 a = 0)) (fun _ i => na - i.toNatClampNeg) ?_ _ _ ⟨0, Nat.zero_le _, rfl, fun a h => absurd h (Nat.not_lt_zero _), fl_1 (fun a h => absurd h (Nat.not_lt_zero _))⟩
  rintro n i ⟨j, hj, rfl, hp, hn⟩ w hw
  unfold b_X6_weighted_15
  refine ⟨fun hle => ?_, fun hlt => ?_⟩
  · have : na ≤ j := (nI_leI (by omega) (by omega)).mp hle
    have : j = na := by omega
    subst this
    refine nf_z (by omega) (fun e => ?_) (fun hnf => ⟨fun z => ?_, fun z => ?_⟩)
    · exact model _ _ (fun z => absurd hp z) (fun _ _ => rfl) (fun _ z _ => absurd z (by omega))
    · have ht : ∀ a, a < j → 0 ≤ (f a).toInt ∧ (f a).toInt ≤ 100 := fun a ha => by
        rw [hf a (by omega)]
        exact hp a ha
      refine x_lightest hV hnf ht ?_
      refine model _ _ (fun z => absurd hp z) (fun _ y => ?_) (fun _ _ _ => ?_)
      · rcases y with y | y
        · omega
        · exact absurd y (fl_no hn z)
      · have eg : ∀ k, wZ f (v k) j = wZ (q4 x1 x2 x3 x4) (v k) j := fun k => wZ_congr j (fun a ha => hf a (by omega))
        have e2 : (fun k o => wZ f (v k) j < wZ f (v o) j) = (fun k o => wZ (q4 x1 x2 x3 x4) (v k) j < wZ (q4 x1 x2 x3 x4) (v o) j) := by
          funext k o
          rw [eg, eg]
        rw [e2]
    · exact model _ _ (fun z => absurd hp z) (fun _ _ => rfl) (fun _ _ y => absurd (fl_yes hn z).1 y)
  · have hjn := nI_leN (by omega) (by omega) hlt
    have hin : vp_in (nI j) 4 := vp_in_nI (by omega) (by decide)
    have dec : na - (nI j + 1).toNatClampNeg < na - (nI j).toNatClampNeg := by
      rw [nI_1, cl_nI (by omega), cl_nI (by omega)]
      omega
    rw [cl_nI (by omega), hf j (by omega)]
    have t0 : Int32.toInt 0 = 0 := rfl
    have t1 : Int32.toInt 100 = 100 := rfl
    refine ⟨hin, fun q => ?_, fun q => ⟨hin, fun q2 => ⟨fun z => ?_, fun z => ⟨hin, fun y => ?_, fun y => ?_⟩⟩, fun q2 => ?_⟩⟩
    · rw [Int32.lt_iff_toInt_lt] at q
      have bad : ¬ ∀ a, a < na → 0 ≤ (q4 x1 x2 x3 x4 a).toInt ∧ (q4 x1 x2 x3 x4 a).toInt ≤ 100 := fun x => by
        have := x j hjn
        omega
      exact model _ _ (fun _ => rfl) (fun z => absurd z bad) (fun z => absurd z bad)
    · have q1 := i_nlt q
      rw [Int32.le_iff_toInt_le] at q1 q2
      exact hw _ _ ⟨j + 1, by omega, nI_1 j, all_succ.mpr ⟨hp, by omega, by omega⟩, fl_0 (fun x => fl_no hn z (fun a ha => x a (by omega)))⟩ dec
    · have q1 := i_nlt q
      rw [Int32.le_iff_toInt_le] at q1 q2
      exact hw _ _ ⟨j + 1, by omega, nI_1 j, all_succ.mpr ⟨hp, by omega, by omega⟩, fl_1 (all_succ.mpr ⟨(fl_yes hn z).1, y⟩)⟩ dec
    · have q1 := i_nlt q
      rw [Int32.le_iff_toInt_le] at q1 q2
      exact hw _ _ ⟨j + 1, by omega, nI_1 j, all_succ.mpr ⟨hp, by omega, by omega⟩, fl_0 (fun x => y (x j (by omega)))⟩ dec
    · have q3 := i_nle q2
      rw [Int32.lt_iff_toInt_lt] at q3
      have bad : ¬ ∀ a, a < na → 0 ≤ (q4 x1 x2 x3 x4 a).toInt ∧ (q4 x1 x2 x3 x4 a).toInt ≤ 100 := fun x => by
        have := x j hjn
        omega
      exact model _ _ (fun _ => rfl) (fun z => absurd z bad) (fun z => absurd z bad)
end C

/-! ===== first, under, plan, left ===== -/
/-- k is less than o in the turns t 0 .. t (m - 1) -/
def lessT (v : Nat → Nat → Int32) (t : Nat → Int32) (m k o : Nat) : Prop := ∃ i, i < m ∧ (∀ i', i' < i → v k (t i').toNatClampNeg = v o (t i').toNatClampNeg) ∧ v k (t i).toNatClampNeg < v o (t i).toNatClampNeg
theorem lessT_no {v : Nat → Nat → Int32} {t : Nat → Int32} {m k o : Nat} (h : ∀ i, i < m → v k (t i).toNatClampNeg = v o (t i).toNatClampNeg) : ¬ lessT v t m k o := by
  rintro ⟨i, hi, -, hl⟩
  rw [h i hi, Int32.lt_iff_toInt_lt] at hl
  omega
theorem lessT_gt {v : Nat → Nat → Int32} {t : Nat → Int32} {m k o j : Nat} (hj : j < m) (h : ∀ i, i < j → v k (t i).toNatClampNeg = v o (t i).toNatClampNeg) (hg : v o (t j).toNatClampNeg < v k (t j).toNatClampNeg) : ¬ lessT v t m k o := by
  rintro ⟨i, hi, he, hl⟩
  rw [Int32.lt_iff_toInt_lt] at hl hg
  rcases Nat.lt_trichotomy i j with z | z | z
  · rw [h i z] at hl
    omega
  · subst z
    omega
  · rw [he j z] at hg
    omega
theorem lessT_congr {v : Nat → Nat → Int32} {t t' : Nat → Int32} {m : Nat} (h : ∀ i, i < m → t i = t' i) : lessT v t m = lessT v t' m := by
  funext k o
  apply propext
  constructor
  · rintro ⟨i, hi, a, b⟩
    exact ⟨i, hi, fun i' hi' => by rw [← h i' (by omega)]; exact a i' hi', by rw [← h i hi]; exact b⟩
  · rintro ⟨i, hi, a, b⟩
    exact ⟨i, hi, fun i' hi' => by rw [h i' (by omega)]; exact a i' hi', by rw [h i hi]; exact b⟩
section F
variable {na nf : Nat} {v : Nat → Nat → Int32} {scores : Nat → Int64} {FP PS : Nat → Int32}
theorem x_isLess (hV : FV na nf v scores FP PS) {t : Nat → Int32} {m k o : Nat} (hm : m ≤ 4) (ht : ∀ i, i < m → ∃ a, a < na ∧ t i = nI a) (hk : k < nf) (ho : o < nf) {post : Int32 → Prop} (h1 : lessT v t m k o → post 1) (h0 : ¬ lessT v t m k o → post 0) : wp_X3_isLessInTurn t scores (nI k) (nI o) (nI m) post := by
  have hV' := hV
  obtain ⟨n1, n2, n3⟩ := hV'
  unfold wp_X3_isLessInTurn
  refine Lq1_inv (fun x => ∃ j : Nat, j ≤ m ∧ x = nI j ∧ ∀ i, i < j → v k (t i).toNatClampNeg = v o (t i).toNatClampNeg) (fun x => m - x.toNatClampNeg) ?_ _ ⟨0, Nat.zero_le _, rfl, fun i h => absurd h (Nat.not_lt_zero _)⟩
  rintro x ⟨j, hj, rfl, he⟩ w hw
  unfold b_X3_isLessInTurn_3
  refine ⟨fun hle => ?_, fun hlt => ?_⟩
  · have : m ≤ j := (nI_leI (by omega) (by omega)).mp hle
    have : j = m := by omega
    subst this
    exact h0 (lessT_no he)
  · have hjm := nI_leN (by omega) (by omega) hlt
    have hin : vp_in (nI j) 4 := vp_in_nI (by omega) (by decide)
    rw [cl_nI (by omega)]
    obtain ⟨a, ha, ea⟩ := ht j hjm
    have ec : (t j).toNatClampNeg = a := by rw [ea, cl_nI (by omega)]
    rw [ea]
    refine ⟨hin, x_num hV hk ha ⟨hin, x_num hV ho ha ⟨fun q => ?_, fun q => ⟨fun q2 => ?_, fun q2 => ?_⟩⟩⟩⟩
    · refine hw _ ⟨j + 1, by omega, nI_1 j, all_succ.mpr ⟨he, by rw [ec]; exact q⟩⟩ ?_
      rw [nI_1, cl_nI (by omega), cl_nI (by omega)]
      omega
    · refine h0 (lessT_gt hjm he ?_)
      rw [ec, Int32.lt_iff_toInt_lt]
      rw [Int32.le_iff_toInt_le] at q2
      rw [← Int32.toInt_inj] at q
      omega
    · exact h1 ⟨j, hjm, he, by rw [ec]; exact i_nle q2⟩
theorem y_isFirst (hV : FV na nf v scores FP PS) {t : Nat → Int32} {m k o : Nat} (hm : m ≤ 4) (ht : ∀ i, i < m → ∃ a, a < na ∧ t i = nI a) (hk : k < nf) (ho : o < nf) {post : Int32 → Prop} (h1 : lessT v t m k o → post 1) (h0 : ¬ lessT v t m k o → post 0) : wp_X7_isFirst t FP PS (nI k) (nI o) (nI m) post := by
  have hV' := hV
  obtain ⟨n1, n2, n3⟩ := hV'
  unfold wp_X7_isFirst
  refine Lq1_inv (fun x => ∃ j : Nat, j ≤ m ∧ x = nI j ∧ ∀ i, i < j → v k (t i).toNatClampNeg = v o (t i).toNatClampNeg) (fun x => m - x.toNatClampNeg) ?_ _ ⟨0, Nat.zero_le _, rfl, fun i h => absurd h (Nat.not_lt_zero _)⟩
  rintro x ⟨j, hj, rfl, he⟩ w hw
  unfold b_X7_isFirst_3
  refine ⟨fun hle => ?_, fun hlt => ?_⟩
  · have : m ≤ j := (nI_leI (by omega) (by omega)).mp hle
    have : j = m := by omega
    subst this
    exact h0 (lessT_no he)
  · have hjm := nI_leN (by omega) (by omega) hlt
    have hin : vp_in (nI j) 4 := vp_in_nI (by omega) (by decide)
    rw [cl_nI (by omega)]
    obtain ⟨a, ha, ea⟩ := ht j hjm
    have ec : (t j).toNatClampNeg = a := by rw [ea, cl_nI (by omega)]
    rw [ea]
    refine ⟨hin, x_at hV hk ha (x_at hV ho ha ⟨fun q => ?_, fun q => x_at hV hk ha (x_at hV ho ha ⟨fun q2 => ?_, fun q2 => ?_⟩)⟩)⟩
    · refine hw _ ⟨j + 1, by omega, nI_1 j, all_succ.mpr ⟨he, by rw [ec]; exact q⟩⟩ ?_
      rw [nI_1, cl_nI (by omega), cl_nI (by omega)]
      omega
    · refine h0 (lessT_gt hjm he ?_)
      rw [ec, Int32.lt_iff_toInt_lt]
      rw [Int32.le_iff_toInt_le] at q2
      rw [← Int32.toInt_inj] at q
      omega
    · exact h1 ⟨j, hjm, he, by rw [ec]; exact i_nle q2⟩
/-- the turns that are looked at: m of them -/
def okT (na : Nat) (t : Nat → Int32) (m : Nat) : Prop := m ≤ 4 ∧ ∀ i, i < m → ¬ t i = -1000000 ∧ ∃ a, a < na ∧ t i = nI a
theorem m_first (hV : FV na nf v scores FP PS) {asked four : Nat → Int32} {x1 x2 x3 x4 : Int32} {K : Int32 → (Nat → Int32) → Int32 → (Nat → Int32) → Prop} (hK : ∀ r f g, K r f r g) :
    wp_X6_first asked scores (nI nf) (nI na) x1 x2 x3 x4 (fun r f => wp_X7_first (nI na) four (nI nf) FP PS x1 x2 x3 x4 (fun r' g => K r f r' g)) := by
  have hV' := hV
  obtain ⟨n1, n2, n3⟩ := hV'
  -- the model, where the class has looked at m turns
  have model : ∀ (r : Int32) (f : Nat → Int32) (m : Nat), okT na (q4 x1 x2 x3 x4) m → ((m = 4 ∨ q4 x1 x2 x3 x4 m = -1000000) ∧ (nf = 0 → r = -1000002) ∧ (0 < nf → r = nI (bestF (lessT v (q4 x1 x2 x3 x4) m) (nf - 1))) ∨ (m < 4 ∧ ¬ q4 x1 x2 x3 x4 m = -1000000 ∧ (∀ a, a < na → q4 x1 x2 x3 x4 m ≠ nI a) ∧ r = -1000001)) → wp_X7_first (nI na) four (nI nf) FP PS x1 x2 x3 x4 (fun r' g => K r f r' g) := by
    intro r f m hm hr
    unfold wp_X7_first
    refine w_take (fun g hg => ?_)
    refine Lq1_inv (fun x => ∃ j : Nat, j ≤ m ∧ x = nI j) (fun x => m - x.toNatClampNeg) ?_ _ ⟨0, Nat.zero_le _, rfl⟩
    rintro x ⟨j, hj, rfl⟩ w hw
    have hm4 := hm.1
    have fin : j = m → (m = 4 ∨ q4 x1 x2 x3 x4 m = -1000000) → (nI nf = 0 → K r f (-1000002) g) ∧ (¬ nI nf = 0 → Lq2 (b_X7_first_69 (nI nf) FP PS g (nI j) (fun v6 => K r f v6 g)) (0 : Int32) (1 : Int32)) := fun e hs => by
      subst e
      rcases hr with ⟨-, r1, r2⟩ | ⟨b1, b2, -⟩
      · refine nf_z (by omega) (fun e => ?_) (fun hnf => ?_)
        · rw [r1 e]
          exact hK _ _ _
        · rw [r2 hnf]
          have ht : ∀ i, i < j → ∃ a, a < na ∧ g i = nI a := fun i hi => by
            rw [hg i (by omega)]
            exact (hm.2 i hi).2
          have el : lessT v g j = lessT v (q4 x1 x2 x3 x4) j := lessT_congr (fun i hi => hg i (by omega))
          rw [← el]
          refine Lq2_inv (fun b i => ∃ k : Nat, k + 1 ≤ nf ∧ i = nI (k + 1) ∧ b = nI (bestF (lessT v g j) k)) (fun _ i => nf - i.toNatClampNeg) ?_ _ _ ⟨0, by omega, rfl, rfl⟩
          rintro b i ⟨k, hk, rfl, rfl⟩ w2 hw2
          unfold b_X7_first_69
          refine ⟨fun hle => ?_, fun hlt => ?_⟩
          · have : nf ≤ k + 1 := (nI_leI (by omega) (by omega)).mp hle
            have : nf - 1 = k := by omega
            rw [this]
            exact hK _ _ _
          · have hkn := nI_leN (by omega) (by omega) hlt
            have bl := bestF_le (less := lessT v g j) k
            have dec : nf - (nI (k + 1) + 1).toNatClampNeg < nf - (nI (k + 1)).toNatClampNeg := by
              rw [nI_1, cl_nI (by omega), cl_nI (by omega)]
              omega
            refine y_isFirst hV hm4 ht hkn (by omega) (fun q => ⟨fun z => absurd z (by decide), fun _ => ?_⟩) (fun q => ⟨fun _ => ?_, fun z => absurd rfl z⟩)
            · exact hw2 _ _ ⟨k + 1, by omega, nI_1 _, by rw [bestF_yes q]⟩ dec
            · exact hw2 _ _ ⟨k + 1, by omega, nI_1 _, by rw [bestF_no q]⟩ dec
      · rcases hs with hs | hs
        · omega
        · exact absurd hs b2
    unfold b_X7_first_12
    refine ⟨fun hle => ?_, fun hlt => ?_⟩
    · have : 4 ≤ j := (nI_leI (a := 4) (by omega) (by omega)).mp hle
      exact fin (by omega) (Or.inl (by omega))
    · have hj4 : j < 4 := nI_leN (a := 4) (by omega) (by omega) hlt
      have hin : vp_in (nI j) 4 := vp_in_nI hj4 (by decide)
      rw [cl_nI (by omega), hg j hj4]
      refine ⟨hin, fun q => ?_, fun q => ⟨hin, ?_⟩⟩
      · have e : j = m := by
          rcases Nat.lt_or_ge j m with z | z
          · exact absurd q (hm.2 j z).1
          · omega
        exact fin e (Or.inr (by rw [← e]; exact q))
      · rcases Nat.lt_or_ge j m with z | z
        · obtain ⟨a, ha, ea⟩ := (hm.2 j z).2
          refine w_isAim (by omega) (fun j' hj' e' => ⟨fun y => absurd y (by decide), fun _ => hw _ ⟨j + 1, by omega, nI_1 j⟩ ?_⟩) (fun y => absurd ea (y a ha))
          rw [nI_1, cl_nI (by omega), cl_nI (by omega)]
          omega
        · have e : j = m := by omega
          subst e
          rcases hr with ⟨hs, -⟩ | ⟨b1, b2, b3, rfl⟩
          · rcases hs with hs | hs
            · omega
            · exact absurd hs q
          · exact w_isAim (by omega) (fun j' hj' e' => absurd e' (b3 j' hj')) (fun y => ⟨fun _ => hK _ _ _, fun z => absurd rfl z⟩)
  unfold wp_X6_first
  refine w_ask (fun f hf => ?_)
  refine Lq1_inv (fun x => ∃ j : Nat, x = nI j ∧ okT na (q4 x1 x2 x3 x4) j) (fun x => 4 - x.toNatClampNeg) ?_ _ ⟨0, rfl, Nat.zero_le _, fun i h => absurd h (Nat.not_lt_zero _)⟩
  rintro x ⟨j, rfl, hj⟩ w hw
  have hj4 := hj.1
  have fin : (j = 4 ∨ q4 x1 x2 x3 x4 j = -1000000) → (nI nf = 0 → wp_X7_first (nI na) four (nI nf) FP PS x1 x2 x3 x4 (fun r' g => K (-1000002) f r' g)) ∧ (¬ nI nf = 0 → wp_X3_leastInTurn f scores (nI nf) (nI j) (fun r => wp_X7_first (nI na) four (nI nf) FP PS x1 x2 x3 x4 (fun r' g => K r f r' g))) := fun hs => by
    refine nf_z (by omega) (fun e => ?_) (fun hnf => ?_)
    · exact model _ _ j hj (Or.inl ⟨hs, fun _ => rfl, fun z => absurd z (by omega)⟩)
    · have ht : ∀ i, i < j → ∃ a, a < na ∧ f i = nI a := fun i hi => by
        rw [hf i (by omega)]
        exact (hj.2 i hi).2
      have el : lessT v f j = lessT v (q4 x1 x2 x3 x4) j := lessT_congr (fun i hi => hf i (by omega))
      unfold wp_X3_leastInTurn
      refine Lq2_inv (fun b i => ∃ k : Nat, k + 1 ≤ nf ∧ i = nI (k + 1) ∧ b = nI (bestF (lessT v f j) k)) (fun _ i => nf - i.toNatClampNeg) ?_ _ _ ⟨0, by omega, rfl, rfl⟩
      rintro b i ⟨k, hk, rfl, rfl⟩ w2 hw2
      unfold b_X3_leastInTurn_5
      refine ⟨fun hle => ?_, fun hlt => ?_⟩
      · have : nf ≤ k + 1 := (nI_leI (by omega) (by omega)).mp hle
        have ek : nf - 1 = k := by omega
        refine model _ _ j hj (Or.inl ⟨hs, fun z => absurd z (by omega), fun _ => ?_⟩)
        rw [el, ek]
      · have hkn := nI_leN (by omega) (by omega) hlt
        have bl := bestF_le (less := lessT v f j) k
        have dec : nf - (nI (k + 1) + 1).toNatClampNeg < nf - (nI (k + 1)).toNatClampNeg := by
          rw [nI_1, cl_nI (by omega), cl_nI (by omega)]
          omega
        refine x_isLess hV hj4 ht hkn (by omega) (fun q => ⟨fun z => absurd z (by decide), fun _ => ?_⟩) (fun q => ⟨fun _ => ?_, fun z => absurd rfl z⟩)
        · exact hw2 _ _ ⟨k + 1, by omega, nI_1 _, by rw [bestF_yes q]⟩ dec
        · exact hw2 _ _ ⟨k + 1, by omega, nI_1 _, by rw [bestF_no q]⟩ dec
  unfold b_X6_first_12
  refine ⟨fun hle => ?_, fun hlt => ?_⟩
  · have : 4 ≤ j := (nI_leI (a := 4) (by omega) (by omega)).mp hle
    exact fin (Or.inl (by omega))
  · have hj4 : j < 4 := nI_leN (a := 4) (by omega) (by omega) hlt
    have hin : vp_in (nI j) 4 := vp_in_nI hj4 (by decide)
    rw [cl_nI (by omega), hf j hj4]
    refine ⟨hin, fun q => fin (Or.inr q), fun q => ⟨hin, ?_⟩⟩
    refine w_amongN (by omega) (fun a ha ea => ⟨fun y => absurd y (by decide), fun _ => hw _ ⟨j + 1, nI_1 j, by omega, all_succ.mpr ⟨hj.2, q, a, ha, ea⟩⟩ ?_⟩) (fun y => ⟨fun _ => ?_, fun z => absurd rfl z⟩)
    · rw [nI_1, cl_nI (by omega), cl_nI (by omega)]
      omega
    · exact model _ _ j hj (Or.inr ⟨hj4, q, y, rfl⟩)
/-- score k is in no aim greater than the levels t -/
def unT (na : Nat) (v : Nat → Nat → Int32) (t : Nat → Int32) (k : Nat) : Prop := ∀ a, a < na → v k a ≤ t a
theorem m_under (hV : FV na nf v scores FP PS) {asked four : Nat → Int32} {x1 x2 x3 x4 : Int32} {K : Int32 → (Nat → Int32) → Int32 → (Nat → Int32) → Prop} (hK : ∀ r f g, K r f r g) :
    wp_X6_under asked scores (nI nf) (nI na) x1 x2 x3 x4 (fun r f => wp_X7_under (nI na) four (nI nf) FP PS x1 x2 x3 x4 (fun r' g => K r f r' g)) := by
  have hV' := hV
  obtain ⟨n1, n2, n3⟩ := hV'
  have model : ∀ (r : Int32) (f : Nat → Int32), ((∃ k, k < nf ∧ unT na v (q4 x1 x2 x3 x4) k ∧ (∀ i, i < k → ¬ unT na v (q4 x1 x2 x3 x4) i) ∧ r = nI k) ∨ ((∀ k, k < nf → ¬ unT na v (q4 x1 x2 x3 x4) k) ∧ r = -1000000)) → wp_X7_under (nI na) four (nI nf) FP PS x1 x2 x3 x4 (fun r' g => K r f r' g) := by
    intro r f hr
    unfold wp_X7_under
    refine w_take (fun g hg => ?_)
    refine Lq1_inv (fun x => ∃ j : Nat, j ≤ nf ∧ x = nI j ∧ ∀ i, i < j → ¬ unT na v (q4 x1 x2 x3 x4) i) (fun x => nf - x.toNatClampNeg) ?_ _ ⟨0, Nat.zero_le _, rfl, fun i h => absurd h (Nat.not_lt_zero _)⟩
    rintro x ⟨j, hj, rfl, hno⟩ w hw
    unfold b_X7_under_12
    refine ⟨fun hle => ?_, fun hlt => ?_⟩
    · have : nf ≤ j := (nI_leI (by omega) (by omega)).mp hle
      rcases hr with ⟨k, hk, hu, -, -⟩ | ⟨-, rfl⟩
      · exact absurd hu (hno k (by omega))
      · exact hK _ _ _
    · have hjn := nI_leN (by omega) (by omega) hlt
      refine Lq2_inv (fun p i => ∃ b : Nat, b ≤ na ∧ i = nI b ∧ fl p (∀ a, a < b → v j a ≤ q4 x1 x2 x3 x4 a)) (fun _ i => na - i.toNatClampNeg) ?_ _ _ ⟨0, Nat.zero_le _, rfl, fl_1 (fun i h => absurd h (Nat.not_lt_zero _))⟩
      rintro p i ⟨b, hb, rfl, hp⟩ w2 hw2
      unfold b_X7_under_27
      refine ⟨fun hle => ?_, fun hlt2 => ?_⟩
      · have : na ≤ b := (nI_leI (by omega) (by omega)).mp hle
        have : b = na := by omega
        subst this
        refine ⟨fun z => hw _ ⟨j + 1, by omega, nI_1 j, all_succ.mpr ⟨hno, fl_no hp z⟩⟩ ?_, fun z => ?_⟩
        · rw [nI_1, cl_nI (by omega), cl_nI (by omega)]
          omega
        · rcases hr with ⟨k, hk, hu, hf, rfl⟩ | ⟨hf, -⟩
          · have e : j = k := by
              rcases Nat.lt_trichotomy j k with y | y | y
              · exact absurd (fl_yes hp z).1 (hf j y)
              · exact y
              · exact absurd hu (hno k y)
            rw [e]
            exact hK _ _ _
          · exact absurd (fl_yes hp z).1 (hf j hjn)
      · have hbn := nI_leN (by omega) (by omega) hlt2
        have hin : vp_in (nI b) 4 := vp_in_nI (by omega) (by decide)
        have dec : na - (nI b + 1).toNatClampNeg < na - (nI b).toNatClampNeg := by
          rw [nI_1, cl_nI (by omega), cl_nI (by omega)]
          omega
        refine ⟨fun z => hw2 _ _ ⟨b + 1, by omega, nI_1 b, fl_0 (fun y => fl_no hp z (fun a ha => y a (by omega)))⟩ dec, fun z => x_at hV hjn hbn ⟨hin, ?_⟩⟩
        rw [cl_nI (by omega), hg b (by omega)]
        refine ⟨fun q => hw2 _ _ ⟨b + 1, by omega, nI_1 b, fl_0 (fun y => i_lt_nle q (y b (by omega)))⟩ dec, fun q => hw2 _ _ ⟨b + 1, by omega, nI_1 b, fl_1 (all_succ.mpr ⟨(fl_yes hp z).1, i_nlt q⟩)⟩ dec⟩
  unfold wp_X6_under
  refine w_ask (fun f hf => ?_)
  unfold wp_X3_firstUnder
  -- a level, drawn in
  have clamp : ∀ x : Int32, ∃ z : Int, -2001 ≤ z ∧ z ≤ 2000 ∧ (if (-2001 : Int32) < (if x < (2000 : Int32) then x else (2000 : Int32)) then (if x < (2000 : Int32) then x else (2000 : Int32)) else (-2001 : Int32)) = iZ z ∧ ∀ y : Int32, -2000 ≤ y.toInt → y.toInt ≤ 2000 → (y.toInt ≤ z ↔ y ≤ x) := fun x => by
    have t1 : Int32.toInt 2000 = 2000 := rfl
    have t2 : Int32.toInt (-2001) = -2001 := rfl
    by_cases c1 : x < (2000 : Int32)
    · rw [if_pos c1]
      rw [Int32.lt_iff_toInt_lt] at c1
      by_cases c2 : (-2001 : Int32) < x
      · rw [if_pos c2]
        rw [Int32.lt_iff_toInt_lt] at c2
        exact ⟨x.toInt, by omega, by omega, (iZ_of x).symm, fun y _ _ => Int32.le_iff_toInt_le.symm⟩
      · rw [if_neg c2]
        rw [Int32.lt_iff_toInt_lt] at c2
        refine ⟨-2001, by omega, by omega, rfl, fun y h1 h2 => ?_⟩
        rw [Int32.le_iff_toInt_le]
        omega
    · rw [if_neg c1]
      rw [Int32.lt_iff_toInt_lt] at c1
      rw [if_pos (by decide)]
      refine ⟨2000, by omega, by omega, rfl, fun y h1 h2 => ?_⟩
      rw [Int32.le_iff_toInt_le]
      omega
  refine Lq2_inv (fun s i => ∃ (b : Nat) (z : Nat → Int32), b ≤ na ∧ i = nI b ∧ s = lN (pkS z b) ∧ ∀ a, a < b → -2001 ≤ (z a).toInt ∧ (z a).toInt ≤ 2000 ∧ ∀ y : Int32, -2000 ≤ y.toInt → y.toInt ≤ 2000 → (y.toInt ≤ (z a).toInt ↔ y ≤ q4 x1 x2 x3 x4 a)) (fun _ i => na - i.toNatClampNeg) ?_ _ _ ⟨0, fun _ => 0, Nat.zero_le _, rfl, rfl, fun i h => absurd h (Nat.not_lt_zero _)⟩
  rintro s i ⟨b, z, hb, rfl, rfl, hz⟩ w hw
  unfold b_X3_firstUnder_5
  refine ⟨fun hle => ?_, fun hlt => ?_⟩
  · have : na ≤ b := (nI_leI (by omega) (by omega)).mp hle
    have : b = na := by omega
    subst this
    rw [pkS_P4 n2]
    have zl : ∀ a, a < 4 → lnA b z a < 16384 := fun a _ => by
      by_cases ha : a < b
      · rw [lnA_in ha]
        have := hz a ha
        unfold ln
        omega
      · rw [lnA_out ha]
        omega
    have key : ∀ k, k < nf → (dm (lnA b (v k)) (lnA b z) ↔ unT b v (q4 x1 x2 x3 x4) k) := fun k hk => by
      have hk' := (n3 k hk).1
      constructor
      · intro hd a ha
        have h1 := hd a (by omega)
        rw [lnA_in ha, lnA_in ha] at h1
        obtain ⟨z1, z2, z3⟩ := hz a ha
        have h2 := hk' a ha
        refine (z3 _ h2.1 h2.2).mp ?_
        unfold ln at h1
        omega
      · intro hu a h4
        by_cases ha : a < b
        · rw [lnA_in ha, lnA_in ha]
          obtain ⟨z1, z2, z3⟩ := hz a ha
          have h2 := hk' a ha
          have h3 := (z3 _ h2.1 h2.2).mpr (hu a ha)
          unfold ln
          omega
        · rw [lnA_out ha, lnA_out ha]
          exact Nat.le_refl _
    refine Lq1_inv (fun x => ∃ j : Nat, j ≤ nf ∧ x = nI j ∧ ∀ i, i < j → ¬ unT b v (q4 x1 x2 x3 x4) i) (fun x => nf - x.toNatClampNeg) ?_ _ ⟨0, Nat.zero_le _, rfl, fun i h => absurd h (Nat.not_lt_zero _)⟩
    rintro x ⟨j, hj, rfl, hno⟩ w2 hw2
    unfold b_X3_firstUnder_48
    refine ⟨fun hle => ?_, fun hlt => ?_⟩
    · have : nf ≤ j := (nI_leI (by omega) (by omega)).mp hle
      exact model _ _ (Or.inr ⟨fun k hk => hno k (by omega), rfl⟩)
    · have hjn := nI_leN (by omega) (by omega) hlt
      rw [cl_nI (by omega), (n3 j hjn).2.1]
      refine ⟨vp_in_nI (by omega) (by decide), w_ing (lnA_lt (n3 j hjn).1) zl (fun hd => ⟨fun y => absurd y (by decide), fun _ => model _ _ (Or.inl ⟨j, hjn, (key j hjn).mp hd, hno, rfl⟩)⟩) (fun hd => ⟨fun _ => hw2 _ ⟨j + 1, by omega, nI_1 j, all_succ.mpr ⟨hno, fun y => hd ((key j hjn).mpr y)⟩⟩ ?_, fun y => absurd rfl y⟩)⟩
      rw [nI_1, cl_nI (by omega), cl_nI (by omega)]
      omega
  · have hbn := nI_leN (by omega) (by omega) hlt
    rw [cl_nI (by omega), hf b (by omega)]
    obtain ⟨c, c1, c2, c3, c4⟩ := clamp (q4 x1 x2 x3 x4 b)
    rw [c3]
    have ec : (iZ c).toInt = c := iZ_toInt (by omega) (by omega)
    have pk_eq2 : ∀ n, n ≤ b → pkS (upd z b (iZ c)) n = pkS z n := fun n => by
      induction n with
      | zero => exact fun _ => rfl
      | succ n ih =>
        intro hn
        show pkS _ n + ln _ * _ = pkS z n + ln _ * _
        rw [ih (by omega), upd_n (by omega)]
    refine ⟨vp_in_nI (by omega) (by decide), w_lane (by omega) (by omega) (by omega) (hw _ _ ⟨b + 1, upd z b (iZ c), by omega, nI_1 b, ?_, fun a ha => ?_⟩ ?_)⟩
    · rw [lN_add]
      show _ = lN (pkS (upd z b (iZ c)) b + ln (upd z b (iZ c) b) * 2 ^ (48 - 16 * b))
      rw [pk_eq2 b (Nat.le_refl _), upd_s]
      unfold ln
      rw [ec]
    · by_cases y : a = b
      · subst y
        rw [upd_s, ec]
        exact ⟨c1, c2, c4⟩
      · rw [upd_n y]
        exact hz a (by omega)
    · rw [nI_1, cl_nI (by omega), cl_nI (by omega)]
      omega
end F
theorem m_plan {nc nf : Nat} (hc : nc ≤ 8) (hn : nf ≤ 2000) {low high lows highs points numbers FP PP point : Nat → Int32} (hb : okB lows highs nc) (he : ∀ c, c < nc → low c = lows c ∧ high c = highs c) (hp : ∀ k, k < nf → ∃ p n, p < 2000 ∧ n < 2147483648 ∧ points k = nI n ∧ FP k = nI p ∧ PP p = nI n) {x y : Int32} {K : Int32 → (Nat → Int32) → Int32 → (Nat → Int32) → Prop} (hK : ∀ r f g, K r f r g) :
    wp_X6_plan points (nI nf) numbers (nI nc) high low x y (fun r f => wp_X7_plan (nI nc) (nI nf) FP highs lows PP point x y (fun r' g => K r f r' g)) := by
  unfold wp_X6_plan wp_X7_plan
  have hb' : okB low high nc := fun c h => by
    rw [(he c h).1, (he c h).2]
    exact hb c h
  refine w_amongN (by omega) (fun k hk ek => ⟨fun z => absurd z (by decide), fun _ => ?_⟩) (fun hk => ⟨fun _ => ?_, fun z => absurd rfl z⟩)
  · subst ek
    refine w_amongN (by omega) (fun c hcc ec => ⟨fun z => absurd z (by decide), fun _ => ?_⟩) (fun hcc => ⟨fun _ => ?_, fun z => absurd rfl z⟩)
    · subst ec
      obtain ⟨p, n, p1, p2, e1, e2, e3⟩ := hp k hk
      have hin : vp_in (nI k) 2000 := vp_in_nI (by omega) (by decide)
      have hin8 : vp_in (nI c) 8 := vp_in_nI (by omega) (by decide)
      rw [cl_nI (by omega), e1, e2]
      refine ⟨hin, w_fill hc hb' p2 ⟨hin8, ?_⟩⟩
      refine w_isScore (by omega) (fun j hj e => ⟨fun z => absurd z (by decide), fun _ => ?_⟩) (fun z => absurd rfl (z k hk))
      refine w_isColumn (by omega) (fun j hj e => ⟨fun z => absurd z (by decide), fun _ => ⟨hin, vp_in_nI p1 (by decide), ?_⟩⟩) (fun z => absurd rfl (z c hcc))
      rw [cl_nI (show p < 2147483648 by omega), e3]
      refine w_toPoint hc hb p2 ⟨hin8, ?_⟩
      rw [cl_nI (by omega), fz_congr nc n numbers he, fz_in nc n numbers point c hcc]
      exact hK _ _ _
    · refine w_isScore (by omega) (fun j hj e => ⟨fun z => absurd z (by decide), fun _ => ?_⟩) (fun z => absurd rfl (z k hk))
      exact w_isColumn (by omega) (fun j hj e => absurd e (hcc j hj)) (fun z => ⟨fun _ => hK _ _ _, fun z => absurd rfl z⟩)
  · exact w_isScore (by omega) (fun j hj e => absurd e (hk j hj)) (fun z => ⟨fun _ => hK _ _ _, fun z => absurd rfl z⟩)
theorem m_left {nc g : Nat} (hc : nc ≤ 8) {lows highs : Nat → Int32} (hb : okB lows highs nc) {K : Int32 → Int32 → Prop} (hK : ∀ r, K r r) : wp_X6_left (nI g) (nI (wP lows highs nc)) (fun r => wp_X7_left (nI nc) (nI g) highs lows (fun r' => K r r')) := by
  unfold wp_X6_left wp_X7_left
  exact w_points hc hb (hK _)

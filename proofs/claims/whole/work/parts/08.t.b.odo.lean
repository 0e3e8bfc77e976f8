/-! ===== places: digits of a number, the last aim changes fastest ===== -/
def wR (R : Nat → Nat) : Nat → Nat
  | 0 => 1
  | d + 1 => wR R d * R d
def dg (R : Nat → Nat) : Nat → Nat → Nat → Nat
  | 0, _ => fun _ => 0
  | d + 1, t => fun a => if a = d then t % R d else dg R d (t / R d) a
theorem wR_pos {R : Nat → Nat} : ∀ (d : Nat), (∀ a, a < d → 1 ≤ R a) → 1 ≤ wR R d
  | 0, _ => Nat.le_refl 1
  | d + 1, h => Nat.mul_le_mul (wR_pos d (fun a ha => h a (by omega))) (h d (Nat.lt_succ_self d))
theorem dg_lt {R : Nat → Nat} : ∀ (d t a : Nat), (∀ a, a < d → 1 ≤ R a) → a < d → dg R d t a < R a
  | d + 1, t, a, h, ha => by
    show (if a = d then t % R d else dg R d (t / R d) a) < R a
    split
    · rename_i e
      subst e
      exact Nat.mod_lt _ (h a ha)
    · exact dg_lt d _ a (fun a ha => h a (by omega)) (by omega)
theorem dg_zero {R : Nat → Nat} : ∀ (d a : Nat), dg R d 0 a = 0
  | 0, _ => rfl
  | d + 1, a => by
    show (if a = d then 0 % R d else dg R d (0 / R d) a) = 0
    split
    · exact Nat.zero_mod _
    · rw [Nat.zero_div]
      exact dg_zero d a
theorem dv1 {R t : Nat} (h : t % R + 1 < R) : (t + 1) / R = t / R ∧ (t + 1) % R = t % R + 1 := by
  refine (Nat.div_mod_unique (by omega)).mpr ⟨?_, h⟩
  have := Nat.div_add_mod t R
  omega
theorem dv2 {R t : Nat} (h : t % R + 1 = R) : (t + 1) / R = t / R + 1 ∧ (t + 1) % R = 0 := by
  refine (Nat.div_mod_unique (by omega)).mpr ⟨?_, by omega⟩
  have := Nat.div_add_mod t R
  rw [Nat.mul_add]
  omega
theorem w_odo {d : Nat} (hd : d ≤ 4) {R : Nat → Nat} (hR : ∀ a, a < d → 1 ≤ R a) {F : (Int32 → (Nat → Int32) → Prop) → Int32 → (Nat → Int32) → Prop} {post : Int32 → (Nat → Int32) → Prop}
    (hF0 : ∀ (w : Int32 → (Nat → Int32) → Prop) (i : Int32) (g : Nat → Int32), i < 0 → post 0 g → F w i g)
    (hF1 : ∀ (w : Int32 → (Nat → Int32) → Prop) (c n : Nat) (g : Nat → Int32), c < d → g c = nI n → n < R c → (n + 1 = R c → w (nI c + (-1 : Int32)) (upd g c 0)) → (n + 1 < R c → post 1 (upd g c (nI (n + 1)))) → F w (nI c) g)
    {t : Nat} (ht : t < wR R d) {g : Nat → Int32} (hg : ∀ a, a < d → g a = nI (dg R d t a))
    (h1 : t + 1 < wR R d → ∀ g' : Nat → Int32, (∀ a, a < d → g' a = nI (dg R d (t + 1) a)) → (∀ a, d ≤ a → g' a = g a) → post 1 g')
    (h0 : t + 1 = wR R d → ∀ g' : Nat → Int32, (∀ a, a < d → g' a = nI 0) → (∀ a, d ≤ a → g' a = g a) → post 0 g') : Lq2 F (nI d - 1) g := by
  refine Lq2_inv (fun i f => ∃ c u : Nat, c ≤ d ∧ i = nI c - 1 ∧ u < wR R c ∧ (∀ a, a < c → f a = nI (dg R c u a)) ∧ (u + 1 < wR R c → ∀ g' : Nat → Int32, (∀ a, a < c → g' a = nI (dg R c (u + 1) a)) → (∀ a, c ≤ a → g' a = f a) → post 1 g') ∧ (u + 1 = wR R c → ∀ g' : Nat → Int32, (∀ a, a < c → g' a = nI 0) → (∀ a, c ≤ a → g' a = f a) → post 0 g')) (fun i _ => (i + 1).toNatClampNeg) ?_ _ _ ⟨d, t, Nat.le_refl _, rfl, ht, hg, h1, h0⟩
  rintro i f ⟨c, u, hc, rfl, hu, hf, k1, k0⟩ w hw
  cases c with
  | zero =>
    refine hF0 w _ f (by decide) (k0 ?_ f (fun a ha => absurd ha (Nat.not_lt_zero _)) (fun _ _ => rfl))
    have : wR R 0 = 1 := rfl
    omega
  | succ c =>
    rw [nI_pred]
    have hRc := hR c (by omega)
    have efc : f c = nI (u % R c) := by
      rw [hf c (by omega)]
      show nI (if c = c then u % R c else _) = _
      rw [if_pos rfl]
    have hu2 : u < wR R c * R c := hu
    have huc : u / R c < wR R c := (Nat.div_lt_iff_lt_mul (by omega)).mpr hu2
    have ed : ∀ t a, dg R (c + 1) t a = if a = c then t % R c else dg R c (t / R c) a := fun _ _ => rfl
    refine hF1 w c (u % R c) f (by omega) efc (Nat.mod_lt _ (by omega)) (fun e => ?_) (fun e => ?_)
    · obtain ⟨e1, e2⟩ := dv2 e
      refine hw _ _ ⟨c, u / R c, by omega, (Int32.sub_eq_add_neg _ _).symm, huc, fun a ha => ?_, fun q g' g1 g2 => ?_, fun q g' g1 g2 => ?_⟩ ?_
      · rw [upd_n (by omega), hf a (by omega), ed, if_neg (by omega)]
      · refine k1 ?_ g' (fun a ha => ?_) (fun a ha => ?_)
        · show u + 1 < wR R c * R c
          rw [← Nat.div_lt_iff_lt_mul (by omega), e1]
          exact q
        · rw [ed]
          by_cases z : a = c
          · subst z
            rw [if_pos rfl, e2, g2 a (Nat.le_refl _), upd_s]
            rfl
          · rw [if_neg z, e1]
            exact g1 a (by omega)
        · rw [g2 a (by omega), upd_n (by omega)]
      · refine k0 ?_ g' (fun a ha => ?_) (fun a ha => ?_)
        · show u + 1 = wR R c * R c
          have := Nat.div_add_mod (u + 1) (R c)
          rw [e1, e2, q, Nat.mul_comm] at this
          omega
        · by_cases z : a = c
          · subst z
            rw [g2 a (Nat.le_refl _), upd_s]
            rfl
          · exact g1 a (by omega)
        · rw [g2 a (by omega), upd_n (by omega)]
      · rw [show nI c + (-1 : Int32) + 1 = nI c by rw [Int32.add_assoc]; exact Int32.add_zero _, nI_pred, nI_1, cl_nI (by omega), cl_nI (by omega)]
        omega
    · obtain ⟨e1, e2⟩ := dv1 e
      refine k1 ?_ _ (fun a ha => ?_) (fun a ha => upd_n (by omega))
      · show u + 1 < wR R c * R c
        rw [← Nat.div_lt_iff_lt_mul (by omega), e1]
        exact huc
      · rw [ed]
        by_cases z : a = c
        · subst z
          rw [if_pos rfl, e2, upd_s]
        · rw [if_neg z, e1, upd_n z, hf a ha, ed, if_neg z]
theorem x_chooseNext {d : Nat} (hd : d ≤ 4) {m : Nat → Nat} (hm : ∀ a, a < d → m a ≤ 12) {chosen ends : Nat → Int32} (he : ∀ a, a < d → ends a = nI (m a)) {t : Nat} (ht : t < wR (fun a => m a + 1) d) (hg : ∀ a, a < d → chosen a = nI (dg (fun a => m a + 1) d t a)) {post : Int32 → (Nat → Int32) → Prop}
    (h1 : t + 1 < wR (fun a => m a + 1) d → ∀ g' : Nat → Int32, (∀ a, a < d → g' a = nI (dg (fun a => m a + 1) d (t + 1) a)) → post 1 g')
    (h0 : t + 1 = wR (fun a => m a + 1) d → ∀ g' : Nat → Int32, (∀ a, a < d → g' a = nI 0) → post 0 g') : wp_X0_chooseNext chosen ends (nI d) post := by
  unfold wp_X0_chooseNext
  refine w_odo (post := post) hd (R := fun a => m a + 1) (fun a _ => by show 1 ≤ m a + 1; omega) (fun w i g hi hp => ?_) (fun w c n g hc e hn w1 w2 => ?_) ht hg (fun q g' g1 _ => h1 q g' g1) (fun q g' g1 _ => h0 q g' g1)
  · unfold b_X0_chooseNext_7
    exact ⟨fun _ => hp, fun z => absurd hi z⟩
  · unfold b_X0_chooseNext_7
    have hn' : n < m c + 1 := hn
    have := hm c hc
    have hin : vp_in (nI c) 4 := vp_in_nI (by omega) (by decide)
    rw [cl_nI (by omega), e, he c hc]
    refine ⟨fun z => absurd z (nI_pos (by omega)), fun _ => ⟨hin, hin, fun z => ⟨hin, w1 ?_⟩, fun z => ⟨hin, hin, ?_⟩⟩⟩
    · have := (nI_leI (by omega) (by omega)).mp z
      show n + 1 = m c + 1
      omega
    · have := nI_leN (by omega) (by omega) z
      rw [nI_1]
      refine w2 ?_
      show n + 1 < m c + 1
      omega
theorem y_nextPlace {d : Nat} (hd : d ≤ 4) {m : Nat → Nat} {less : Nat} (hl : less ≤ 1) (hm : ∀ a, a < d → 1 ≤ m a ∧ m a ≤ 12) {place numbers : Nat → Int32} (he : ∀ a, a < d → numbers a = nI (m a + 1)) {t : Nat} (ht : t < wR (fun a => m a + 1 - less) d) (hg : ∀ a, a < d → place a = nI (dg (fun a => m a + 1 - less) d t a)) {post : Int32 → (Nat → Int32) → Prop}
    (h1 : t + 1 < wR (fun a => m a + 1 - less) d → ∀ g' : Nat → Int32, (∀ a, a < d → g' a = nI (dg (fun a => m a + 1 - less) d (t + 1) a)) → post 1 g')
    (h0 : t + 1 = wR (fun a => m a + 1 - less) d → ∀ g' : Nat → Int32, (∀ a, a < d → g' a = nI 0) → post 0 g') : wp_X7_nextPlace (nI d) numbers place (nI less) post := by
  unfold wp_X7_nextPlace
  refine w_odo (post := post) hd (R := fun a => m a + 1 - less) (fun a ha => by have := hm a ha; show 1 ≤ m a + 1 - less; omega) (fun w i g hi hp => ?_) (fun w c n g hc e hn w1 w2 => ?_) ht hg (fun q g' g1 _ => h1 q g' g1) (fun q g' g1 _ => h0 q g' g1)
  · unfold b_X7_nextPlace_7
    exact ⟨fun _ => hp, fun z => absurd hi z⟩
  · unfold b_X7_nextPlace_7
    have hn' : n < m c + 1 - less := hn
    have := hm c hc
    have hin : vp_in (nI c) 4 := vp_in_nI (by omega) (by decide)
    rw [cl_nI (by omega), e, he c hc, nI_pred, pk_sub (by omega)]
    refine ⟨fun z => absurd z (nI_pos (by omega)), fun _ => ⟨hin, hin, fun z => ⟨hin, w1 ?_⟩, fun z => ⟨hin, hin, ?_⟩⟩⟩
    · have := (nI_leI (by omega) (by omega)).mp z
      show n + 1 = m c + 1 - less
      omega
    · have := nI_leN (by omega) (by omega) z
      rw [nI_1]
      refine w2 ?_
      show n + 1 < m c + 1 - less
      omega
theorem lmin_spec {f : Nat → Int32} : ∀ (n : Nat), (∀ k, k ≤ n → (lmin f n).toInt ≤ (f k).toInt) ∧ ∃ k, k ≤ n ∧ lmin f n = f k
  | 0 => ⟨fun k hk => by have : k = 0 := by omega
                         subst this
                         exact Int.le_refl _, 0, Nat.le_refl _, rfl⟩
  | n + 1 => by
    obtain ⟨h1, k, hk, h2⟩ := lmin_spec (f := f) n
    show (∀ k, k ≤ n + 1 → (if f (n + 1) < lmin f n then f (n + 1) else lmin f n).toInt ≤ (f k).toInt) ∧ ∃ k, k ≤ n + 1 ∧ (if f (n + 1) < lmin f n then f (n + 1) else lmin f n) = f k
    by_cases q : f (n + 1) < lmin f n
    · rw [if_pos q]
      rw [Int32.lt_iff_toInt_lt] at q
      refine ⟨fun k' hk' => ?_, n + 1, Nat.le_refl _, rfl⟩
      rcases Nat.lt_or_ge n k' with z | z
      · have : k' = n + 1 := by omega
        subst this
        exact Int.le_refl _
      · have := h1 k' z
        omega
    · rw [if_neg q]
      rw [Int32.lt_iff_toInt_lt] at q
      refine ⟨fun k' hk' => ?_, k, by omega, h2⟩
      rcases Nat.lt_or_ge n k' with z | z
      · have : k' = n + 1 := by omega
        subst this
        omega
      · exact h1 k' z
theorem lmax_spec {f : Nat → Int32} : ∀ (n : Nat), (∀ k, k ≤ n → (f k).toInt ≤ (lmax f n).toInt) ∧ ∃ k, k ≤ n ∧ lmax f n = f k
  | 0 => ⟨fun k hk => by have : k = 0 := by omega
                         subst this
                         exact Int.le_refl _, 0, Nat.le_refl _, rfl⟩
  | n + 1 => by
    obtain ⟨h1, k, hk, h2⟩ := lmax_spec (f := f) n
    show (∀ k, k ≤ n + 1 → (f k).toInt ≤ (if lmax f n < f (n + 1) then f (n + 1) else lmax f n).toInt) ∧ ∃ k, k ≤ n + 1 ∧ (if lmax f n < f (n + 1) then f (n + 1) else lmax f n) = f k
    by_cases q : lmax f n < f (n + 1)
    · rw [if_pos q]
      rw [Int32.lt_iff_toInt_lt] at q
      refine ⟨fun k' hk' => ?_, n + 1, Nat.le_refl _, rfl⟩
      rcases Nat.lt_or_ge n k' with z | z
      · have : k' = n + 1 := by omega
        subst this
        exact Int.le_refl _
      · have := h1 k' z
        omega
    · rw [if_neg q]
      rw [Int32.lt_iff_toInt_lt] at q
      refine ⟨fun k' hk' => ?_, k, by omega, h2⟩
      rcases Nat.lt_or_ge n k' with z | z
      · have : k' = n + 1 := by omega
        subst this
        omega
      · exact h1 k' z
theorem ix13 {p a : Nat} : (13 : Int32) * nI p + nI a = nI (13 * p + a) := by
  rw [show (13 : Int32) = nI 13 from rfl, pk_mul, nI_add]
section NUM
variable {na nf : Nat} {v : Nat → Nat → Int32} {scores : Nat → Int64} {FP PS : Nat → Int32}
theorem LV_min {a m : Nat} {l : Nat → Int} (hn0 : 0 < nf) (h : LV nf (fun k => (v k a).toInt) m l) : lmin (fun k => v k a) (nf - 1) = iZ (l 0) := by
  obtain ⟨h1, k, hk, h2⟩ := lmin_spec (f := fun k => v k a) (nf - 1)
  obtain ⟨l1, l2, l3, l4, l5, l6⟩ := id h
  rw [← iZ_of (lmin _ _)]
  congr 1
  obtain ⟨i, hi, e⟩ := l5 k (by omega)
  obtain ⟨k0, hk0, e0⟩ := l4 0 (by omega)
  have a1 := h1 k0 (by omega)
  have a2 := LV_le h (Nat.zero_le i) (by omega)
  have a3 := congrArg Int32.toInt h2
  dsimp only at e e0 a1 a3
  omega
theorem LV_max {a m : Nat} {l : Nat → Int} (hn0 : 0 < nf) (h : LV nf (fun k => (v k a).toInt) m l) : lmax (fun k => v k a) (nf - 1) + 1 = iZ (l m) := by
  obtain ⟨h1, k, hk, h2⟩ := lmax_spec (f := fun k => v k a) (nf - 1)
  obtain ⟨l1, l2, l3, l4, l5, l6⟩ := id h
  rw [← iZ_of (lmax _ _), show (1 : Int32) = iZ 1 from rfl, iZ_add, l6]
  congr 2
  obtain ⟨i, hi, e⟩ := l5 k (by omega)
  obtain ⟨k0, hk0, e0⟩ := l4 (m - 1) (by omega)
  have a1 := h1 k0 (by omega)
  have a2 := LV_le h (show i ≤ m - 1 by omega) (by omega)
  have a3 := congrArg Int32.toInt h2
  dsimp only at e e0 a1 a3
  omega
theorem y_next (hV : FV na nf v scores FP PS) {a m : Nat} (ha : a < na) {l : Nat → Int} (hl : LV nf (fun k => (v k a).toInt) m l) {i : Nat} (hi : i < m) {post : Int32 → Prop} (h : post (iZ (l (i + 1)))) : wp_X7_next (nI nf) FP PS (nI a) (iZ (l i)) (iZ (l m)) post := by
  have hV' := hV
  obtain ⟨v1, v2, v3⟩ := hV'
  have hb : ∀ k, k < nf → -2000 ≤ (v k a).toInt ∧ (v k a).toInt ≤ 2000 := fun k hk => (v3 k hk).1 a ha
  have bl : ∀ i, i ≤ m → -2000 ≤ l i ∧ l i ≤ 2001 := fun i hi => ⟨(LV_bd hl hb hi).1, (LV_bd hl hb hi).2.1⟩
  obtain ⟨l1, l2, l3, l4, l5, l6⟩ := id hl
  have bi := bl i (by omega)
  have bm := bl m (Nat.le_refl _)
  unfold wp_X7_next
  refine Lq2_inv (fun s jj => ∃ (j : Nat) (z : Int), j ≤ nf ∧ jj = nI j ∧ s = iZ z ∧ l i < z ∧ z ≤ l m ∧ (z = l m ∨ ∃ k, k < j ∧ (v k a).toInt = z) ∧ ∀ k, k < j → l i < (v k a).toInt → z ≤ (v k a).toInt) (fun _ j => nf - j.toNatClampNeg) ?_ _ _ ⟨0, l m, Nat.zero_le _, rfl, rfl, l3 i m hi (Nat.le_refl _), Int.le_refl _, Or.inl rfl, fun k hk => absurd hk (Nat.not_lt_zero _)⟩
  rintro s jj ⟨j, z, hj, rfl, rfl, z1, z2, z3, z4⟩ w hw
  unfold b_X7_next_6
  refine ⟨fun hle => ?_, fun hlt => ?_⟩
  · have : nf ≤ j := (nI_leI (by omega) (by omega)).mp hle
    have e : j = nf := by omega
    subst e
    have ez : z = l (i + 1) := by
      have up : z ≤ l (i + 1) := by
        rcases Nat.lt_or_ge (i + 1) m with q | q
        · obtain ⟨k, hk, e⟩ := l4 (i + 1) q
          have := z4 k hk (by have := l3 i (i + 1) (by omega) (by omega); dsimp only at e; omega)
          dsimp only at e
          omega
        · have : i + 1 = m := by omega
          rw [this]
          exact z2
      have dn : l (i + 1) ≤ z := by
        rcases z3 with e | ⟨k, hk, e⟩
        · rw [e]
          exact LV_le hl (by omega) (Nat.le_refl _)
        · obtain ⟨i', hi', e'⟩ := l5 k hk
          dsimp only at e'
          have q : l i < l i' := by omega
          have := (LV_lt hl (by omega) (by omega)).mp q
          have := LV_le hl (show i + 1 ≤ i' by omega) (by omega)
          omega
      omega
    rw [ez]
    exact h
  · have hjn := nI_leN (by omega) (by omega) hlt
    have bv := hb j hjn
    have dec : nf - (nI j + 1).toNatClampNeg < nf - (nI j).toNatClampNeg := by
      rw [nI_1, cl_nI (by omega), cl_nI (by omega)]
      omega
    refine x_at hV hjn ha ⟨fun q => ?_, fun q => x_at hV hjn ha ⟨fun q2 => ?_, fun q2 => x_at hV hjn ha ?_⟩⟩
    · rw [Int32.le_iff_toInt_le, iZ_toInt (by omega) (by omega)] at q
      refine hw _ _ ⟨j + 1, z, by omega, nI_1 j, rfl, z1, z2, ?_, fun k hk hq => ?_⟩ dec
      · rcases z3 with e | ⟨k, hk, e⟩
        · exact Or.inl e
        · exact Or.inr ⟨k, by omega, e⟩
      · rcases Nat.lt_or_ge k j with y | y
        · exact z4 k y hq
        · have : k = j := by omega
          subst this
          omega
    · rw [Int32.le_iff_toInt_le, iZ_toInt (by omega) (by omega)] at q2
      refine hw _ _ ⟨j + 1, z, by omega, nI_1 j, rfl, z1, z2, ?_, fun k hk hq => ?_⟩ dec
      · rcases z3 with e | ⟨k, hk, e⟩
        · exact Or.inl e
        · exact Or.inr ⟨k, by omega, e⟩
      · rcases Nat.lt_or_ge k j with y | y
        · exact z4 k y hq
        · have : k = j := by omega
          subst this
          exact q2
    · rw [Int32.le_iff_toInt_le, iZ_toInt (by omega) (by omega)] at q q2
      refine hw _ _ ⟨j + 1, (v j a).toInt, by omega, nI_1 j, (iZ_of _).symm, by omega, by omega, Or.inr ⟨j, by omega, rfl⟩, fun k hk hq => ?_⟩ dec
      rcases Nat.lt_or_ge k j with y | y
      · have := z4 k y hq
        omega
      · have : k = j := by omega
        subst this
        exact Int.le_refl _
/-- the model's levels -/
def MN (na : Nat) (m : Nat → Nat) (lam : Nat → Nat → Int) (number numbers : Nat → Int32) : Prop := ∀ a, a < na → numbers a = nI (m a + 1) ∧ ∀ i, i ≤ m a → number (13 * a + i) = iZ (lam a i)
theorem y_findNumbers (hV : FV na nf v scores FP PS) (hn0 : 0 < nf) {m : Nat → Nat} {lam : Nat → Nat → Int} (hl : ∀ a, a < na → LV nf (fun k => (v k a).toInt) (m a) (lam a)) {number numbers : Nat → Int32} {post : (Nat → Int32) → (Nat → Int32) → Prop}
    (h : ∀ nb nbs : Nat → Int32, MN na m lam nb nbs → post nb nbs) : wp_X7_findNumbers (nI na) (nI nf) FP number numbers PS post := by
  have hV' := hV
  obtain ⟨v1, v2, v3⟩ := hV'
  unfold wp_X7_findNumbers
  refine z_loop (n := 4) (ix := fun j => j) (by omega) (fun w j g hj k1 k2 => ?_) (fun nz nz1 _ => ?_)
  · unfold b_X7_findNumbers_2
    refine ⟨fun hle => k1 ?_, fun hlt => ?_⟩
    · have := (nI_leI (a := 4) (by omega) (by omega)).mp hle
      omega
    · have hjn := nI_leN (a := 4) (by omega) (by omega) hlt
      refine ⟨vp_in_nI (by omega) (by decide), ?_⟩
      rw [nI_1, cl_nI (by omega)]
      exact k2 hjn
  · refine Lq3_inv (fun aa nb ns => ∃ a : Nat, a ≤ na ∧ aa = nI a ∧ MN a m lam nb ns ∧ ∀ b, a ≤ b → b < 4 → ns b = 0) (fun aa _ _ => na - aa.toNatClampNeg) ?_ _ _ _ ⟨0, Nat.zero_le _, rfl, fun a ha => absurd ha (Nat.not_lt_zero _), fun b _ hb => nz1 b hb⟩
    rintro aa nb ns ⟨a, ha, rfl, hM, hz⟩ w hw
    unfold b_X7_findNumbers_22
    refine ⟨fun hle => ?_, fun hlt => ?_⟩
    · have : na ≤ a := (nI_leI (by omega) (by omega)).mp hle
      have e : a = na := by omega
      subst e
      exact h nb ns hM
    · have han := nI_leN (by omega) (by omega) hlt
      have hla := hl a han
      have hb : ∀ k, k < nf → -2000 ≤ (v k a).toInt ∧ (v k a).toInt ≤ 2000 := fun k hk => (v3 k hk).1 a han
      have bl : ∀ i, i ≤ m a → -2000 ≤ lam a i ∧ lam a i ≤ 2001 := fun i hi => ⟨(LV_bd hla hb hi).1, (LV_bd hla hb hi).2.1⟩
      have hm12 := hla.2.1
      have ha4 : vp_in (nI a) 4 := vp_in_nI (by omega) (by decide)
      refine y_least hV hn0 han (y_greatest hV hn0 han ?_)
      rw [LV_min hn0 hla]
      refine Lq3_inv (fun vv nb' ns' => ∃ i : Nat, i ≤ m a ∧ vv = iZ (lam a i) ∧ ns' a = nI i ∧ (∀ b, b ≠ a → ns' b = ns b) ∧ (∀ j, j < i → nb' (13 * a + j) = iZ (lam a j)) ∧ ∀ k, k < 13 * a → nb' k = nb k) (fun _ _ ns' => 13 - (ns' a).toNatClampNeg) ?_ _ _ _ ⟨0, Nat.zero_le _, rfl, hz a (Nat.le_refl _) (by omega), fun _ _ => rfl, fun j hj => absurd hj (Nat.not_lt_zero _), fun _ _ => rfl⟩
      rintro vv nb' ns' ⟨i, hi, rfl, n1, n2, n3, n4⟩ w' hw'
      unfold b_X7_findNumbers_44
      dsimp only
      rw [LV_max hn0 hla, cl_nI (show a < 2147483648 by omega), n1, ix13]
      refine ⟨fun hle => ?_, fun hlt => ?_⟩
      · rw [iZ_le (by have := bl (m a) (Nat.le_refl _); omega) (by have := bl i hi; omega)] at hle
        have e : i = m a := by
          rcases Nat.lt_or_ge i (m a) with q | q
          · have := hla.2.2.1 i (m a) q (Nat.le_refl _)
            omega
          · omega
        subst e
        refine ⟨ha4, vp_in_nI (by omega) (by decide), ha4, ha4, hw _ _ _ ⟨a + 1, by omega, nI_1 a, fun b hb => ?_, fun b h1 h2 => ?_⟩ ?_⟩
        · rw [cl_nI (by omega), nI_1]
          by_cases z : b = a
          · subst z
            refine ⟨upd_s, fun i hi => ?_⟩
            rcases Nat.lt_or_ge i (m b) with q | q
            · rw [upd_n (by omega)]
              exact n3 i q
            · have : i = m b := by omega
              subst this
              rw [upd_s]
          · obtain ⟨b1, b2⟩ := hM b (by omega)
            refine ⟨by rw [upd_n z, n2 b z]; exact b1, fun i hi => ?_⟩
            have := (hl b (by omega)).2.1
            rw [upd_n (by omega), n4 _ (by omega)]
            exact b2 i hi
        · rw [upd_n (by omega), n2 b (by omega)]
          exact hz b (by omega) h2
        · rw [nI_1, cl_nI (by omega), cl_nI (by omega)]
          omega
      · rw [iZ_le (by have := bl (m a) (Nat.le_refl _); omega) (by have := bl i hi; omega)] at hlt
        have hlm : i < m a := by
          rcases Nat.lt_or_ge i (m a) with q | q
          · exact q
          · have : i = m a := by omega
            subst this
            exact absurd (Int.le_refl _) hlt
        refine ⟨ha4, vp_in_nI (by omega) (by decide), ha4, ha4, y_next hV han hla hlm ?_⟩
        rw [cl_nI (by omega), nI_1]
        refine hw' _ _ _ ⟨i + 1, by omega, rfl, upd_s, fun b hb => ?_, fun j hj => ?_, fun k hk => ?_⟩ ?_
        · rw [upd_n hb]
          exact n2 b hb
        · rcases Nat.lt_or_ge j i with q | q
          · rw [upd_n (by omega)]
            exact n3 j q
          · have : j = i := by omega
            subst this
            exact upd_s
        · rw [upd_n (by omega)]
          exact n4 k hk
        · rw [upd_s, n1, cl_nI (by omega), cl_nI (by omega)]
          omega
theorem y_firstPlace (hV : FV na nf v scores FP PS) (hn0 : 0 < nf) {m : Nat → Nat} {lam : Nat → Nat → Int} (hl : ∀ a, a < na → LV nf (fun k => (v k a).toInt) (m a) (lam a)) {number numbers place : Nat → Int32} {post : (Nat → Int32) → (Nat → Int32) → (Nat → Int32) → Prop}
    (h : ∀ nb nbs pl : Nat → Int32, MN na m lam nb nbs → (∀ a, a < 4 → pl a = 0) → post nb nbs pl) : wp_X7_firstPlace (nI na) (nI nf) FP number numbers place PS post := by
  unfold wp_X7_firstPlace
  refine y_findNumbers hV hn0 hl (fun nb nbs hM => ?_)
  refine z_loop (n := 4) (ix := fun j => j) (by omega) (fun w j g hj k1 k2 => ?_) (fun nz nz1 _ => h nb nbs nz hM nz1)
  unfold b_X7_firstPlace_6
  refine ⟨fun hle => k1 ?_, fun hlt => ?_⟩
  · have := (nI_leI (a := 4) (by omega) (by omega)).mp hle
    omega
  · have hjn := nI_leN (a := 4) (by omega) (by omega) hlt
    refine ⟨vp_in_nI (by omega) (by decide), ?_⟩
    rw [nI_1, cl_nI (by omega)]
    exact k2 hjn
end NUM

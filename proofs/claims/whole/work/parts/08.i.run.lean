/-! ===== the points gone through: how many plans, which ones ===== -/
/-- how many of the points 0 .. g - 1 are plans -/
noncomputable def cP (Pl : Nat → Prop) : Nat → Nat
  | 0 => 0
  | g + 1 => cP Pl g + (@ite Nat (Pl g) (Classical.propDecidable _) 1 0)
theorem cP_yes {Pl : Nat → Prop} {g : Nat} (h : Pl g) : cP Pl (g + 1) = cP Pl g + 1 := by
  show cP Pl g + _ = _
  rw [if_pos h]
theorem cP_no {Pl : Nat → Prop} {g : Nat} (h : ¬ Pl g) : cP Pl (g + 1) = cP Pl g := by
  show cP Pl g + _ = _
  rw [if_neg h]
  rfl
theorem cP_mono {Pl : Nat → Prop} {g g' : Nat} (h : g ≤ g') : cP Pl g ≤ cP Pl g' := by
  induction g' with
  | zero =>
    have : g = 0 := by omega
    subst this
    exact Nat.le_refl _
  | succ n ih =>
    rcases Nat.lt_or_ge n g with q | q
    · have : g = n + 1 := by omega
      subst this
      exact Nat.le_refl _
    · have := ih q
      by_cases hp : Pl n
      · rw [cP_yes hp]
        omega
      · rw [cP_no hp]
        exact this
theorem cP_le {Pl : Nat → Prop} : ∀ (g : Nat), cP Pl g ≤ g
  | 0 => Nat.le_refl 0
  | g + 1 => by
    have := cP_le (Pl := Pl) g
    by_cases hp : Pl g
    · rw [cP_yes hp]
      omega
    · rw [cP_no hp]
      omega
/-- the point that is plan number p -/
noncomputable def pn (Pl : Nat → Prop) (p : Nat) : Nat := @dite Nat (∃ n, Pl n ∧ cP Pl n = p) (Classical.propDecidable _) (fun h => Classical.choose h) (fun _ => 0)
theorem pn_of {Pl : Nat → Prop} {n : Nat} (h : Pl n) : pn Pl (cP Pl n) = n := by
  have hx : ∃ n', Pl n' ∧ cP Pl n' = cP Pl n := ⟨n, h, rfl⟩
  have e : pn Pl (cP Pl n) = Classical.choose hx := dif_pos hx
  rw [e]
  obtain ⟨h1, h2⟩ := Classical.choose_spec hx
  generalize Classical.choose hx = n' at h1 h2
  rcases Nat.lt_trichotomy n' n with q | q | q
  · have a := cP_mono (Pl := Pl) (show n' + 1 ≤ n from q)
    rw [cP_yes h1] at a
    omega
  · exact q
  · have a := cP_mono (Pl := Pl) (show n + 1 ≤ n' from q)
    rw [cP_yes h] at a
    omega
theorem pn_has {Pl : Nat → Prop} : ∀ (g p : Nat), p < cP Pl g → Pl (pn Pl p) ∧ pn Pl p < g ∧ cP Pl (pn Pl p) = p
  | 0, p, h => absurd h (Nat.not_lt_zero _)
  | g + 1, p, h => by
    by_cases hp : Pl g
    · rw [cP_yes hp] at h
      rcases Nat.lt_or_ge p (cP Pl g) with q | q
      · obtain ⟨a, b, c⟩ := pn_has g p q
        exact ⟨a, by omega, c⟩
      · have : p = cP Pl g := by omega
        subst this
        rw [pn_of hp]
        exact ⟨hp, Nat.lt_succ_self _, rfl⟩
    · rw [cP_no hp] at h
      obtain ⟨a, b, c⟩ := pn_has g p h
      exact ⟨a, by omega, c⟩
/-- the lanes of plan number p -/
noncomputable def Lf (na : Nat) (Pl : Nat → Prop) (S : Nat → Nat → Int32) (p : Nat) : Nat → Nat := lnA na (S (pn Pl p))
noncomputable def PPf (Pl : Nat → Prop) (p : Nat) : Int32 := nI (pn Pl p)
theorem FS_congr {np nf : Nat} {L L' : Nat → Nat → Nat} {fp : Nat → Nat} (e : ∀ p, p < np → L p = L' p) (h : FS np L nf fp) : FS np L' nf fp := by
  obtain ⟨a1, a2, a3, a4, a5⟩ := h
  refine ⟨a1, fun k hk q hq => ?_, fun k hk q hq => ?_, fun i j hij hj => ?_, fun p hp => ?_⟩
  · have := a1 k hk
    rw [← e q (by omega), ← e _ this]
    exact a2 k hk q hq
  · rw [← e q hq, ← e _ (a1 k hk)]
    exact a3 k hk q hq
  · rw [← e _ (a1 i (by omega)), ← e _ (a1 j hj)]
    exact a4 i j hij hj
  · obtain ⟨k, hk, hd⟩ := a5 p hp
    exact ⟨k, hk, by rw [← e _ (a1 k hk), ← e p hp]; exact hd⟩
theorem cnt_congr {L L' : Nat → Nat → Nat} {key : Nat} : ∀ (n : Nat), (∀ p, p < n → L p = L' p) → cnt L key n = cnt L' key n
  | 0, _ => rfl
  | n + 1, h => by
    show cnt L key n + _ = cnt L' key n + _
    rw [cnt_congr n (fun p hp => h p (by omega)), h n (by omega)]
theorem FS_zero {L : Nat → Nat → Nat} {fp : Nat → Nat} : FS 0 L 0 fp := ⟨fun k hk => absurd hk (Nat.not_lt_zero _), fun k hk => absurd hk (Nat.not_lt_zero _), fun k hk => absurd hk (Nat.not_lt_zero _), fun i j _ hj => absurd hj (Nat.not_lt_zero _), fun p hp => absurd hp (Nat.not_lt_zero _)⟩
/-- columns, rows, aims as both classes hold them -/
def SU (nc nr na : Nat) (low high right : Nat → Int32) (terms : Nat → Nat → Int32) (fr to : Nat → Int32) (costs : Nat → Nat → Int32) (lows highs rights termsM costsM froms tos : Nat → Int32) : Prop :=
  nc ≤ 8 ∧ nr ≤ 8 ∧ na ≤ 4 ∧ okB lows highs nc ∧ wP lows highs nc ≤ 2000 ∧ (∀ c, c < nc → low c = lows c ∧ high c = highs c) ∧ (∀ r, r < nr → right r = rights r) ∧
  (∀ r, r < nr → ∀ c, c < nc → terms r c = termsM (8 * r + c)) ∧ (∀ a, a < na → ∀ c, c < nc → costs a c = costsM (8 * a + c)) ∧ (∀ a, a < na → fr a = froms a ∧ to a = tos a ∧ -2000 ≤ (froms a).toInt ∧ (tos a).toInt ≤ 2000) ∧
  (∀ r c, r < 8 → c < 8 → ¬ (r < nr ∧ c < nc) → terms r c = 0) ∧ ∀ a c, a < 4 → c < 8 → ¬ (a < na ∧ c < nc) → costs a c = 0
/-- the numbers of point n -/
def Xn (nc : Nat) (lows highs : Nat → Int32) (n : Nat) : Nat → Int32 := fz lows highs nc n (fun _ => 0)
def PlS (nc nr na : Nat) (lows highs rights termsM costsM froms tos : Nat → Int32) (n : Nat) : Prop := isP nc nr na termsM rights costsM froms tos (Xn nc lows highs n)
def ScS (nc : Nat) (lows highs costsM : Nat → Int32) (n : Nat) : Nat → Int32 := Sc costsM nc (Xn nc lows highs n)
theorem isP_congr {nc nr na : Nat} {termsM rights costsM froms tos x y : Nat → Int32} (h : ∀ c, c < nc → x c = y c) : isP nc nr na termsM rights costsM froms tos x ↔ isP nc nr na termsM rights costsM froms tos y := by
  have e : ∀ f, sumN f x nc = sumN f y nc := fun f => sumN_congr nc (fun c hc => ⟨rfl, h c hc⟩)
  unfold isP Sc
  simp only [e]
theorem Sc_congr {nc : Nat} {costsM x y : Nat → Int32} (h : ∀ c, c < nc → x c = y c) : Sc costsM nc x = Sc costsM nc y := funext (fun a => sumN_congr nc (fun c hc => ⟨rfl, h c hc⟩))
theorem isP_ok {nc nr na : Nat} {termsM rights costsM froms tos x : Nat → Int32} (hb : ∀ a, a < na → -2000 ≤ (froms a).toInt ∧ (tos a).toInt ≤ 2000) (h : isP nc nr na termsM rights costsM froms tos x) : okS na (Sc costsM nc x) := fun a ha => by
  obtain ⟨c1, c2⟩ := h.2 a ha
  have := hb a ha
  rw [Int32.le_iff_toInt_le] at c1 c2
  omega
section RUN
variable {nc nr na : Nat} {low high right : Nat → Int32} {terms : Nat → Nat → Int32} {fr to : Nat → Int32} {costs : Nat → Nat → Int32} {lows highs rights termsM costsM froms tos : Nat → Int32}
theorem SU_lanes (hs : SU nc nr na low high right terms fr to costs lows highs rights termsM costsM froms tos) {g p : Nat} (hp : p < cP (PlS nc nr na lows highs rights termsM costsM froms tos) g) : okS na (ScS nc lows highs costsM (pn (PlS nc nr na lows highs rights termsM costsM froms tos) p)) := by
  obtain ⟨-, -, -, -, -, -, -, -, -, s10, -⟩ := hs
  exact isP_ok (fun a ha => (s10 a ha).2.2) (pn_has g p hp).1
theorem w_goThrough (hs : SU nc nr na low high right terms fr to costs lows highs rights termsM costsM froms tos) {Pl : Nat → Prop} {S : Nat → Nat → Int32} (hPl : Pl = PlS nc nr na lows highs rights termsM costsM froms tos) (hS : S = ScS nc lows highs costsM) {g nf : Nat} {fp : Nat → Nat} (hg : g < 2000) {counts points numbers : Nat → Int32} {scores : Nat → Int64} (hF : FS (cP Pl g) (Lf na Pl S) nf fp) (hC : CF (cP Pl g) (Lf na Pl S) (PPf Pl) nf fp counts points scores)
    {post : (Nat → Int32) → (Nat → Int32) → (Nat → Int64) → Int32 → Int32 → (Nat → Int32) → Prop}
    (h : ∀ (nf' : Nat) (fp' : Nat → Nat) (c p : Nat → Int32) (sc : Nat → Int64) (nb : Nat → Int32), FS (cP Pl (g + 1)) (Lf na Pl S) nf' fp' → CF (cP Pl (g + 1)) (Lf na Pl S) (PPf Pl) nf' fp' c p sc → post c p sc (nI nf') (nI (cP Pl (g + 1))) nb) :
    wp_X6_goThrough counts points scores (nI nf) (nI (cP Pl g)) numbers (nI na) (nI nc) costs fr high low right (nI nr) terms to (nI g) post := by
  have hs' := hs
  obtain ⟨s1, s2, s3, s4, s5, s6, s7, s8, s9, s10, s11, s12⟩ := hs
  unfold wp_X6_goThrough
  have hb : okB low high nc := fun c hc => by
    rw [(s6 c hc).1, (s6 c hc).2]
    exact s4 c hc
  refine w_fill s1 hb (by omega) ?_
  have ex : ∀ c, c < nc → fz low high nc g numbers c = Xn nc lows highs g c := fun c hc => by
    rw [fz_congr nc g numbers s6]
    exact fz_in nc g _ _ c hc
  refine w_scoreOf s1 s2 s3 s8 s7 s9 s10 (fun hp hok => ?_) (fun hp => ?_)
  · have hpl : Pl g := by
      rw [hPl]
      exact (isP_congr ex).mp hp
    have eS : Sc costsM nc (fz low high nc g numbers) = S (pn Pl (cP Pl g)) := by
      rw [pn_of hpl, hS]
      exact Sc_congr ex
    have eP : nI g = PPf Pl (cP Pl g) := by
      unfold PPf
      rw [pn_of hpl]
    have hL : ∀ p, p ≤ cP Pl g → ∀ a, a < 4 → Lf na Pl S p a < 16384 := fun p hp => by
      refine lnA_lt ?_
      have h2 : p < cP Pl (g + 1) := by
        rw [cP_yes hpl]
        omega
      rw [hS]
      rw [hPl] at h2 ⊢
      exact SU_lanes hs' h2
    have hcl := cP_le (Pl := Pl) g
    rw [eS]
    refine ⟨fun e => ?_, fun _ => ?_⟩
    · have hlt := P4_63 (hL (cP Pl g) (Nat.le_refl _))
      have e1 := congrArg Int64.toInt e
      rw [show lnA na (S (pn Pl (cP Pl g))) = Lf na Pl S (cP Pl g) from rfl, pk_lT hlt] at e1
      have e2 : Int64.toInt (-1) = -1 := by decide
      omega
    · rw [nI_1, eP]
      refine w_meet (by omega) hL hF hC (fun nf' fp' c p sc h1 h2 => ?_)
      rw [← cP_yes hpl] at h1 h2 ⊢
      exact h nf' fp' c p sc _ h1 h2
  · have hpl : ¬ Pl g := by
      rw [hPl]
      exact fun z => hp ((isP_congr ex).mpr z)
    refine ⟨fun _ => ?_, fun z => absurd rfl z⟩
    rw [← cP_no hpl] at hF hC ⊢
    exact h nf fp counts points scores _ hF hC
/-- the class's run() over the points g .. g' - 1 -/
theorem w_runX6 (hs : SU nc nr na low high right terms fr to costs lows highs rights termsM costsM froms tos) {Pl : Nat → Prop} {S : Nat → Nat → Int32} (hPl : Pl = PlS nc nr na lows highs rights termsM costsM froms tos) (hS : S = ScS nc lows highs costsM) {g nf P : Nat} {fp : Nat → Nat} (hP : P = wP lows highs nc) (hg : g ≤ P) {x : Int32} {counts points numbers : Nat → Int32} {scores : Nat → Int64} {worked csize : Int32} (hF : FS (cP Pl g) (Lf na Pl S) nf fp) (hC : CF (cP Pl g) (Lf na Pl S) (PPf Pl) nf fp counts points scores)
    {post : Int32 → Int32 → Int32 → (Nat → Int32) → (Nat → Int32) → (Nat → Int64) → Int32 → Int32 → Int32 → (Nat → Int32) → Prop}
    (hO : ¬ (0 ≤ x.toInt ∧ x.toInt ≤ 2000) → post (-1000001) worked csize counts points scores (nI nf) (nI g) (nI (cP Pl g)) numbers) (hT : 0 ≤ x.toInt → x.toInt ≤ 2000 → na = 0 → post (-1000002) worked csize counts points scores (nI nf) (nI g) (nI (cP Pl g)) numbers)
    (h : ∀ (k nf' : Nat) (fp' : Nat → Nat) (c p : Nat → Int32) (sc : Nat → Int64) (nb : Nat → Int32), k ≤ 2000 → x = nI k → 0 < na → FS (cP Pl (g + min k (P - g))) (Lf na Pl S) nf' fp' → CF (cP Pl (g + min k (P - g))) (Lf na Pl S) (PPf Pl) nf' fp' c p sc → post (nI nf') 0 0 c p sc (nI nf') (nI (g + min k (P - g))) (nI (cP Pl (g + min k (P - g)))) nb) :
    wp_X6_run worked csize counts points scores (nI nf) (nI g) (nI (cP Pl g)) numbers (nI na) (nI nc) costs fr high low (nI P) right (nI nr) terms to x post := by
  have hs' := hs
  obtain ⟨s1, s2, s3, s4, s5, s6, s7, s8, s9, s10, s11, s12⟩ := hs
  unfold wp_X6_run
  refine ⟨fun q => hO ?_, fun q => ⟨fun q2 => ⟨fun q3 => ?_, fun q3 => ?_⟩, fun q2 => hO ?_⟩⟩
  · rw [Int32.lt_iff_toInt_lt] at q
    have : Int32.toInt 0 = 0 := rfl
    omega
  · have q1 := i_nlt q
    rw [Int32.le_iff_toInt_le] at q1 q2
    exact hT q1 q2 ((nI_eq (b := 0) (by omega) (by omega)).mp q3)
  · have hna : 0 < na := by
      rcases Nat.lt_or_ge 0 na with z | z
      · exact z
      · have : na = 0 := by omega
        subst this
        exact absurd rfl q3
    obtain ⟨k, hk, rfl⟩ := nI_of q
    have hk2 : k ≤ 2000 := (nI_leI (b := 2000) hk (by omega)).mp q2
    have ee : nI g + (if (nI P - nI g) < nI k then (nI P - nI g) else nI k) = nI (g + min k (P - g)) := by
      rw [pk_sub hg]
      by_cases z : P - g < k
      · rw [if_pos ((nI_ltI (by omega) (by omega)).mpr z), nI_add, Nat.min_eq_right (by omega)]
      · rw [if_neg (fun y => z ((nI_ltI (by omega) (by omega)).mp y)), nI_add, Nat.min_eq_left (by omega)]
    unfold wp_X2_end wp_X0_forget
    have hend : g + min k (P - g) ≤ P := by omega
    refine Lq7_inv (fun gg c p sc z mm nb => ∃ (j nf' : Nat) (fp' : Nat → Nat), g ≤ j ∧ j ≤ g + min k (P - g) ∧ gg = nI j ∧ mm = nI (cP Pl j) ∧ z = nI nf' ∧ FS (cP Pl j) (Lf na Pl S) nf' fp' ∧ CF (cP Pl j) (Lf na Pl S) (PPf Pl) nf' fp' c p sc) (fun gg _ _ _ _ _ _ => 2000 - gg.toNatClampNeg) ?_ _ _ _ _ _ _ _ ⟨g, nf, fp, Nat.le_refl _, by omega, rfl, rfl, rfl, hF, hC⟩
    rintro gg c p sc z mm nb ⟨j, nf', fp', hgj, hj, rfl, rfl, rfl, hF', hC'⟩ w hw
    unfold b_X6_run_68
    rw [ee]
    refine ⟨fun hle => ?_, fun hlt => ?_⟩
    · have : g + min k (P - g) ≤ j := (nI_leI (by omega) (by omega)).mp hle
      have e : j = g + min k (P - g) := by omega
      rw [e] at hF' hC' ⊢
      exact h k nf' fp' c p sc nb hk2 rfl hna hF' hC'
    · have hjn := nI_leN (by omega) (by omega) hlt
      refine w_goThrough hs' hPl hS (by omega) hF' hC' (fun nf2 fp2 c2 p2 sc2 nb2 h1 h2 => ?_)
      refine hw _ _ _ _ _ _ _ ⟨j + 1, nf2, fp2, by omega, by omega, nI_1 j, rfl, rfl, h1, h2⟩ ?_
      rw [nI_1, cl_nI (by omega), cl_nI (by omega)]
      omega
  · have q1 := i_nle q2
    rw [Int32.lt_iff_toInt_lt] at q1
    have : Int32.toInt 2000 = 2000 := rfl
    omega
end RUN

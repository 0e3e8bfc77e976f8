/-! ===== corners as packed longs ===== -/
def pw (a : Nat) : Int := if a = 0 then 281474976710656 else if a = 1 then 4294967296 else if a = 2 then 65536 else 1
def cZ (na : Nat) (z : Nat → Int) : Nat → Nat := fun a => if a < na then (z a + 2048).toNat else 0
def PK (na : Nat) (z : Nat → Int) : Int64 := lN (P4 (cZ na z))
def sZ (z : Nat → Int) : Nat → Int
  | 0 => 0
  | n + 1 => sZ z n + (z n + 2048) * pw n
def oZ : Nat → Int
  | 0 => 0
  | n + 1 => oZ n + pw n
def zupd (z : Nat → Int) (a : Nat) (y : Int) : Nat → Int := fun b => if b = a then y else z b
theorem zu_s {z : Nat → Int} {a : Nat} {y : Int} : zupd z a y a = y := if_pos rfl
theorem zu_n {z : Nat → Int} {a b : Nat} {y : Int} (h : b ≠ a) : zupd z a y b = z b := if_neg h
theorem sZ_congr {z z' : Nat → Int} : ∀ (n : Nat), (∀ a, a < n → z a = z' a) → sZ z n = sZ z' n
  | 0, _ => rfl
  | n + 1, h => by
    show sZ z n + (z n + 2048) * pw n = sZ z' n + (z' n + 2048) * pw n
    rw [sZ_congr n (fun a ha => h a (by omega)), h n (by omega)]
theorem sZ_upd {z : Nat → Int} {a : Nat} {y : Int} : ∀ (n : Nat), a < n → sZ (zupd z a y) n = sZ z n - (z a + 2048) * pw a + (y + 2048) * pw a
  | n + 1, h => by
    show sZ (zupd z a y) n + (zupd z a y n + 2048) * pw n = sZ z n + (z n + 2048) * pw n - (z a + 2048) * pw a + (y + 2048) * pw a
    by_cases e : a = n
    · subst e
      rw [zu_s, sZ_congr a (z' := z) (fun b hb => zu_n (by omega))]
      omega
    · rw [zu_n (fun z => e z.symm), sZ_upd n (by omega)]
      omega
theorem sZ_dec {z : Nat → Int} : ∀ (n : Nat), sZ (fun a => z a - 1) n = sZ z n - oZ n
  | 0 => rfl
  | n + 1 => by
    show sZ (fun a => z a - 1) n + (z n - 1 + 2048) * pw n = sZ z n + (z n + 2048) * pw n - (oZ n + pw n)
    rw [sZ_dec n, show z n - 1 + 2048 = (z n + 2048) - 1 by omega, Int.sub_mul, Int.one_mul]
    omega
theorem pw_0 : pw 0 = 281474976710656 := if_pos rfl
theorem pw_1 : pw 1 = 4294967296 := (if_neg (by decide)).trans (if_pos rfl)
theorem pw_2 : pw 2 = 65536 := (if_neg (by decide)).trans ((if_neg (by decide)).trans (if_pos rfl))
theorem pw_3 : pw 3 = 1 := (if_neg (by decide)).trans ((if_neg (by decide)).trans (if_neg (by decide)))
theorem P4_int (q : Nat → Nat) : ((P4 q : Nat) : Int) = (q 0 : Int) * 281474976710656 + (q 1 : Int) * 4294967296 + (q 2 : Int) * 65536 + (q 3 : Int) := by
  unfold P4
  generalize q 0 = a
  generalize q 1 = b
  generalize q 2 = c
  generalize q 3 = d
  omega
theorem cZ_in {na a : Nat} {z : Nat → Int} (ha : a < na) (h : -2048 ≤ z a) : ((cZ na z a : Nat) : Int) = z a + 2048 := by
  unfold cZ
  rw [if_pos ha]
  omega
theorem cZ_out {na a : Nat} {z : Nat → Int} (ha : ¬ a < na) : ((cZ na z a : Nat) : Int) = 0 := by
  unfold cZ
  rw [if_neg ha]
  rfl
theorem PK_s {z : Nat → Int} {na : Nat} (hn : na ≤ 4) (h : ∀ a, a < na → -2048 ≤ z a) : PK na z = jZ (sZ z na) := by
  unfold PK
  rw [← jZ_nat, P4_int]
  congr 1
  match na, hn with
  | 0, _ =>
    rw [cZ_out (by omega), cZ_out (by omega), cZ_out (by omega), cZ_out (by omega)]
    show _ = (0 : Int)
    omega
  | 1, _ =>
    rw [cZ_in (by omega) (h 0 (by omega)), cZ_out (by omega), cZ_out (by omega), cZ_out (by omega)]
    show _ = (0 : Int) + (z 0 + 2048) * pw 0
    rw [pw_0]
    omega
  | 2, _ =>
    rw [cZ_in (by omega) (h 0 (by omega)), cZ_in (by omega) (h 1 (by omega)), cZ_out (by omega), cZ_out (by omega)]
    show _ = (0 : Int) + (z 0 + 2048) * pw 0 + (z 1 + 2048) * pw 1
    rw [pw_0, pw_1]
    omega
  | 3, _ =>
    rw [cZ_in (by omega) (h 0 (by omega)), cZ_in (by omega) (h 1 (by omega)), cZ_in (by omega) (h 2 (by omega)), cZ_out (by omega)]
    show _ = (0 : Int) + (z 0 + 2048) * pw 0 + (z 1 + 2048) * pw 1 + (z 2 + 2048) * pw 2
    rw [pw_0, pw_1, pw_2]
    omega
  | 4, _ =>
    rw [cZ_in (by omega) (h 0 (by omega)), cZ_in (by omega) (h 1 (by omega)), cZ_in (by omega) (h 2 (by omega)), cZ_in (by omega) (h 3 (by omega))]
    show _ = (0 : Int) + (z 0 + 2048) * pw 0 + (z 1 + 2048) * pw 1 + (z 2 + 2048) * pw 2 + (z 3 + 2048) * pw 3
    rw [pw_0, pw_1, pw_2, pw_3]
    omega
theorem pw_n {a : Nat} (ha : a < 4) : ((2 ^ (48 - 16 * a) : Nat) : Int) = pw a := by
  match a, ha with
  | 0, _ => decide
  | 1, _ => decide
  | 2, _ => decide
  | 3, _ => decide
theorem w_laneZ {a : Nat} (ha : a < 4) {v : Int} (h1 : -2048 ≤ v) (h2 : v < 63488) {post : Int64 → Prop} (h : post (jZ ((v + 2048) * pw a))) : wp_X4_lane (nI a) (iZ v) post := by
  refine w_lane ha h1 h2 ?_
  have e : lN ((v + 2048).toNat * 2 ^ (48 - 16 * a)) = jZ ((v + 2048) * pw a) := by
    rw [← jZ_nat, Int.natCast_mul, pw_n ha, Int.toNat_of_nonneg (by omega)]
  rw [e]
  exact h
theorem shl_Z {a n : Nat} (ha : a < 4) (hn : n < 2147483648) : ((nI n).toInt64) <<< ((nI (48 - 16 * a)).toInt64 &&& 63) = jZ ((n : Int) * pw a) := by
  rw [nI_l (by omega), wb_shl _ (by omega), ← jZ_nat, Int.natCast_mul, pw_n ha]
section BOX
variable {na nf : Nat} {v : Nat → Nat → Int32} {scores : Nat → Int64} {FP PS : Nat → Int32}
theorem x_ing (hV : FV na nf v scores FP PS) {k : Nat} (hk : k < nf) {y : Nat → Int} (hy : ∀ a, a < na → -2048 ≤ y a ∧ y a < 10000) {post : Int32 → Prop} (h1 : (∀ a, a < na → (v k a).toInt ≤ y a) → post 1) (h0 : ¬ (∀ a, a < na → (v k a).toInt ≤ y a) → post 0) : wp_X4_inNoneGreater (scores k) (PK na y) post := by
  obtain ⟨v1, v2, v3⟩ := hV
  obtain ⟨b1, b2, -⟩ := v3 k hk
  rw [b2]
  have hq := lnA_lt b1
  have hr : ∀ a, a < 4 → cZ na y a < 16384 := fun a _ => by
    unfold cZ
    split
    · rename_i h
      have := hy a h
      omega
    · omega
  have i : (∀ a, a < 4 → lnA na (v k) a ≤ cZ na y a) ↔ ∀ a, a < na → (v k a).toInt ≤ y a := by
    constructor
    · intro z a ha
      have := z a (by omega)
      rw [lnA_in ha] at this
      unfold cZ ln at this
      rw [if_pos ha] at this
      have := hy a ha
      have := b1 a ha
      omega
    · intro z a ha
      by_cases q : a < na
      · rw [lnA_in q]
        unfold cZ ln
        rw [if_pos q]
        have := z a q
        omega
      · rw [lnA_out q]
        exact Nat.zero_le _
  exact w_ing hq hr (fun z => h1 (i.mp z)) (fun z => h0 (fun y => z (i.mpr y)))
/-- the least last number of the scores with C, as a level -/
def LL (nf : Nat) (f : Nat → Int) (m : Nat) (l : Nat → Int) (C : Nat → Prop) (j : Nat) : Prop := j ≤ m ∧ (∀ k, k < nf → C k → l j ≤ f k) ∧ (j = m ∨ ∃ k, k < nf ∧ C k ∧ f k = l j)
theorem LL_unique {f l : Nat → Int} {m : Nat} (hl : LV nf f m l) {C : Nat → Prop} {i j : Nat} (hi : LL nf f m l C i) (hj : LL nf f m l C j) : i = j := by
  obtain ⟨i1, i2, i3⟩ := hi
  obtain ⟨j1, j2, j3⟩ := hj
  rcases Nat.lt_trichotomy i j with q | q | q
  · exfalso
    have z := hl.2.2.1 i j q j1
    rcases i3 with e | ⟨k, hk, c, e⟩
    · omega
    · have := j2 k hk c
      omega
  · exact q
  · exfalso
    have z := hl.2.2.1 j i q i1
    rcases j3 with e | ⟨k, hk, c, e⟩
    · omega
    · have := i2 k hk c
      omega
theorem LL_congr {f l : Nat → Int} {m : Nat} {C C' : Nat → Prop} (h : ∀ k, k < nf → (C k ↔ C' k)) {j : Nat} (hj : LL nf f m l C j) : LL nf f m l C' j := by
  obtain ⟨j1, j2, j3⟩ := hj
  refine ⟨j1, fun k hk c => j2 k hk ((h k hk).mpr c), ?_⟩
  rcases j3 with e | ⟨k, hk, c, e⟩
  · exact Or.inl e
  · exact Or.inr ⟨k, hk, (h k hk).mp c, e⟩
noncomputable def qL (nf : Nat) (f : Nat → Int) (m : Nat) (l : Nat → Int) (C : Nat → Prop) : Nat := Classical.epsilon (fun j => LL nf f m l C j)
theorem qL_of {f l : Nat → Int} {m : Nat} (hl : LV nf f m l) {C : Nat → Prop} {j : Nat} (hj : LL nf f m l C j) : qL nf f m l C = j := LL_unique hl (Classical.epsilon_spec (p := fun j => LL nf f m l C j) ⟨j, hj⟩) hj
/-- the class's levels -/
def CL (na : Nat) (m : Nat → Nat) (lam : Nat → Nat → Int) (levels : Nat → Nat → Int32) (ends : Nat → Int32) : Prop := ∀ a, a < na → ends a = nI (m a) ∧ ∀ i, i ≤ m a → levels a i = iZ (lam a i)
theorem x_leastLast (hV : FV na nf v scores FP PS) {d : Nat} (hd : d < na) {m : Nat → Nat} {lam : Nat → Nat → Int} (hl : LV nf (fun k => (v k d).toInt) (m d) (lam d)) {levels : Nat → Nat → Int32} {ends : Nat → Int32} (he : ends d = nI (m d) ∧ levels d (m d) = iZ (lam d (m d))) {y : Nat → Int} (hy : ∀ a, a < na → -2048 ≤ y a ∧ y a < 10000) {post : Int32 → Prop}
    (h : ∀ j, LL nf (fun k => (v k d).toInt) (m d) (lam d) (fun k => ∀ a, a < na → (v k a).toInt ≤ y a) j → post (iZ (lam d j))) : wp_X0_leastLast scores (nI nf) ends (nI d) levels (PK na y) post := by
  have hV' := hV
  obtain ⟨v1, v2, v3⟩ := hV'
  have hb : ∀ k, k < nf → -2000 ≤ (v k d).toInt ∧ (v k d).toInt ≤ 2000 := fun k hk => (v3 k hk).1 d hd
  have bl : ∀ i, i ≤ m d → -2000 ≤ lam d i ∧ lam d i ≤ 2001 := fun i hi => ⟨(LV_bd hl hb hi).1, (LV_bd hl hb hi).2.1⟩
  have hm := hl.2.1
  unfold wp_X0_leastLast
  have hd4 : vp_in (nI d) 4 := vp_in_nI (by omega) (by decide)
  rw [cl_nI (by omega), he.1, cl_nI (by omega), he.2]
  refine ⟨hd4, hd4, vp_in_nI (by omega) (by decide), ?_⟩
  refine Lq2_inv (fun s ii => ∃ i j : Nat, i ≤ nf ∧ ii = nI i ∧ s = iZ (lam d j) ∧ j ≤ m d ∧ (∀ k, k < i → (∀ a, a < na → (v k a).toInt ≤ y a) → lam d j ≤ (v k d).toInt) ∧ (j = m d ∨ ∃ k, k < i ∧ (∀ a, a < na → (v k a).toInt ≤ y a) ∧ (v k d).toInt = lam d j)) (fun _ i => nf - i.toNatClampNeg) ?_ _ _ ⟨0, m d, Nat.zero_le _, rfl, rfl, Nat.le_refl _, fun k hk => absurd hk (Nat.not_lt_zero _), Or.inl rfl⟩
  rintro s ii ⟨i, j, hi, rfl, rfl, j1, j2, j3⟩ w hw
  unfold b_X0_leastLast_24
  refine ⟨fun hle => ?_, fun hlt => ?_⟩
  · have : nf ≤ i := (nI_leI (by omega) (by omega)).mp hle
    have e : i = nf := by omega
    subst e
    exact h j ⟨j1, j2, j3⟩
  · have hin := nI_leN (by omega) (by omega) hlt
    have dec : nf - (nI i + 1).toNatClampNeg < nf - (nI i).toNatClampNeg := by
      rw [nI_1, cl_nI (by omega), cl_nI (by omega)]
      omega
    rw [cl_nI (by omega)]
    refine ⟨vp_in_nI (by omega) (by decide), x_ing hV hin hy (fun c => ⟨fun z => absurd z (by decide), fun _ => x_num hV hin hd ?_⟩) (fun c => ⟨fun _ => ?_, fun z => absurd rfl z⟩)⟩
    · have bj := bl j j1
      obtain ⟨i', hi', e'⟩ := hl.2.2.2.2.1 i hin
      dsimp only at e'
      by_cases q : v i d < iZ (lam d j)
      · rw [if_pos q]
        rw [Int32.lt_iff_toInt_lt, iZ_toInt (by omega) (by omega)] at q
        refine hw _ _ ⟨i + 1, i', by omega, nI_1 i, by rw [← e', iZ_of], by omega, fun k hk ck => ?_, Or.inr ⟨i, by omega, c, e'⟩⟩ dec
        rcases Nat.lt_or_ge k i with z | z
        · have := j2 k z ck
          omega
        · have : k = i := by omega
          subst this
          omega
      · rw [if_neg q]
        rw [Int32.lt_iff_toInt_lt, iZ_toInt (by omega) (by omega)] at q
        refine hw _ _ ⟨i + 1, j, by omega, nI_1 i, rfl, j1, fun k hk ck => ?_, ?_⟩ dec
        · rcases Nat.lt_or_ge k i with z | z
          · exact j2 k z ck
          · have : k = i := by omega
            subst this
            omega
        · rcases j3 with e | ⟨k, hk, ck, e⟩
          · exact Or.inl e
          · exact Or.inr ⟨k, by omega, ck, e⟩
    · refine hw _ _ ⟨i + 1, j, by omega, nI_1 i, rfl, j1, fun k hk ck => ?_, ?_⟩ dec
      · rcases Nat.lt_or_ge k i with z | z
        · exact j2 k z ck
        · have : k = i := by omega
          subst this
          exact absurd ck c
      · rcases j3 with e | ⟨k, hk, ck, e⟩
        · exact Or.inl e
        · exact Or.inr ⟨k, by omega, ck, e⟩
theorem x_holdsScore (hV : FV na nf v scores FP PS) {y : Nat → Int} (hy : ∀ a, a < na → -2047 ≤ y a ∧ y a < 10000) {post : Int32 → Prop} (h1 : (∃ k, k < nf ∧ ∀ a, a < na → (v k a).toInt < y a) → post 1) (h0 : ¬ (∃ k, k < nf ∧ ∀ a, a < na → (v k a).toInt < y a) → post 0) : wp_X0_holdsScore scores (nI nf) (jZ (oZ na)) (PK na y) post := by
  have hV' := hV
  obtain ⟨v1, v2, v3⟩ := hV'
  have e : PK na y - jZ (oZ na) = PK na (fun a => y a - 1) := by
    rw [PK_s v2 (fun a ha => by have := hy a ha; omega), PK_s v2 (fun a ha => by have := hy a ha; omega), jZ_sub, sZ_dec]
  unfold wp_X0_holdsScore
  refine Lq1_inv (fun ii => ∃ i : Nat, i ≤ nf ∧ ii = nI i ∧ ∀ k, k < i → ¬ ∀ a, a < na → (v k a).toInt < y a) (fun i => nf - i.toNatClampNeg) ?_ _ ⟨0, Nat.zero_le _, rfl, fun k hk => absurd hk (Nat.not_lt_zero _)⟩
  rintro ii ⟨i, hi, rfl, j2⟩ w hw
  unfold b_X0_holdsScore_3
  rw [e]
  refine ⟨fun hle => ?_, fun hlt => ?_⟩
  · have : nf ≤ i := (nI_leI (by omega) (by omega)).mp hle
    exact h0 (fun ⟨k, hk, c⟩ => j2 k (by omega) c)
  · have hin := nI_leN (by omega) (by omega) hlt
    rw [cl_nI (by omega)]
    refine ⟨vp_in_nI (by omega) (by decide), x_ing hV hin (fun a ha => by have := hy a ha; omega) (fun c => ⟨fun z => absurd z (by decide), fun _ => h1 ⟨i, hin, fun a ha => ?_⟩⟩) (fun c => ⟨fun _ => hw _ ⟨i + 1, by omega, nI_1 i, fun k hk ck => ?_⟩ ?_, fun z => absurd rfl z⟩)⟩
    · have := c a ha
      omega
    · rcases Nat.lt_or_ge k i with z | z
      · exact j2 k z ck
      · have : k = i := by omega
        subst this
        exact c (fun a ha => by have := ck a ha; omega)
    · rw [nI_1, cl_nI (by omega), cl_nI (by omega)]
      omega
/-- the chosen levels, and a number for the last aim -/
def zC (d : Nat) (lam : Nat → Nat → Int) (p : Nat → Nat) (x : Int) : Nat → Int := fun a => if a = d then x else lam a (p a)
theorem zC_d {d : Nat} {lam : Nat → Nat → Int} {p : Nat → Nat} {x : Int} : zC d lam p x d = x := if_pos rfl
theorem zC_n {d a : Nat} {lam : Nat → Nat → Int} {p : Nat → Nat} {x : Int} (h : a ≠ d) : zC d lam p x a = lam a (p a) := if_neg h
noncomputable def qB (nf d : Nat) (v : Nat → Nat → Int32) (m : Nat → Nat) (lam : Nat → Nat → Int) (p : Nat → Nat) : Nat := qL nf (fun k => (v k d).toInt) (m d) (lam d) (fun k => ∀ a, a < d → (v k a).toInt < lam a (p a))
noncomputable def qV (nf d : Nat) (v : Nat → Nat → Int32) (m : Nat → Nat) (lam : Nat → Nat → Int) (p : Nat → Nat) : Nat := qL nf (fun k => (v k d).toInt) (m d) (lam d) (fun k => ∀ a, a < d → (v k a).toInt ≤ lam a (p a))
noncomputable def zB (nf d : Nat) (v : Nat → Nat → Int32) (m : Nat → Nat) (lam : Nat → Nat → Int) (p : Nat → Nat) : Nat → Int := zC d lam p (lam d (qB nf d v m lam p))
def isB (nf d : Nat) (v : Nat → Nat → Int32) (m : Nat → Nat) (lam : Nat → Nat → Int) (p : Nat → Nat) : Prop := ∀ a, a < d → p a = m a ∨ ∃ k, k < nf ∧ ∀ b, b < d + 1 → (v k b).toInt < zupd (zB nf d v m lam p) a (lam a (p a + 1)) b
def wW (lam : Nat → Nat → Int) (p : Nat → Nat) : Nat → Int
  | 0 => 1
  | n + 1 => wW lam p n * (lam n (p n + 1) - lam n (p n))
noncomputable def cv (nf d : Nat) (v : Nat → Nat → Int32) (m : Nat → Nat) (lam : Nat → Nat → Int) (p : Nat → Nat) : Int := @ite Int (∀ a, a < d → p a < m a) (Classical.propDecidable _) ((lam d (m d) - lam d (qV nf d v m lam p)) * wW lam p d) 0
theorem lam_bd (hV : FV na nf v scores FP PS) {a m : Nat} (ha : a < na) {l : Nat → Int} (hl : LV nf (fun k => (v k a).toInt) m l) {i : Nat} (hi : i ≤ m) : -2000 ≤ l i ∧ l i ≤ 2001 := by
  obtain ⟨v1, v2, v3⟩ := hV
  have := LV_bd hl (fun k hk => (v3 k hk).1 a ha) hi
  exact ⟨this.1, this.2.1⟩
section WORK
variable {d : Nat} {m : Nat → Nat} {lam : Nat → Nat → Int} {levels : Nat → Nat → Int32} {ends : Nat → Int32} {p : Nat → Nat} {chosen : Nat → Int32}
theorem x_openCorner (hV : FV (d + 1) nf v scores FP PS) (hl : ∀ a, a < d + 1 → LV nf (fun k => (v k a).toInt) (m a) (lam a)) (hL : CL (d + 1) m lam levels ends) (hp : ∀ a, a < d → p a ≤ m a) (hc : ∀ a, a < d → chosen a = nI (p a)) {post : Int64 → Prop} (h : post (PK (d + 1) (zC d lam p 2047))) : wp_X0_openCorner chosen (nI d) levels post := by
  have hV' := hV
  obtain ⟨v1, v2, v3⟩ := hV'
  unfold wp_X0_openCorner
  refine w_laneZ (v := 2047) (by omega) (by omega) (by omega) ?_
  refine Lq2_inv (fun s ii => ∃ i : Nat, i ≤ d ∧ ii = nI i ∧ s = jZ ((2047 + 2048) * pw d + sZ (zC d lam p 2047) i)) (fun _ i => d - i.toNatClampNeg) ?_ _ _ ⟨0, Nat.zero_le _, rfl, ?_⟩
  · rintro s ii ⟨i, hi, rfl, rfl⟩ w hw
    unfold b_X0_openCorner_13
    refine ⟨fun hle => ?_, fun hlt => ?_⟩
    · have : d ≤ i := (nI_leI (by omega) (by omega)).mp hle
      have e : i = d := by omega
      subst e
      rw [PK_s v2 (fun a ha => ?_)] at h
      · have e2 : sZ (zC i lam p 2047) (i + 1) = (2047 + 2048) * pw i + sZ (zC i lam p 2047) i := by
          show sZ (zC i lam p 2047) i + (zC i lam p 2047 i + 2048) * pw i = _
          rw [zC_d]
          omega
        rw [e2] at h
        exact h
      · by_cases q : a = i
        · subst q
          rw [zC_d]
          omega
        · rw [zC_n q]
          have := lam_bd hV (show a < i + 1 by omega) (hl a (by omega)) (hp a (by omega))
          omega
    · have hin := nI_leN (by omega) (by omega) hlt
      have bd := lam_bd hV (show i < d + 1 by omega) (hl i (by omega)) (hp i hin)
      have hm := (hl i (by omega)).2.1
      have := hp i hin
      rw [cl_nI (by omega), hc i hin, cl_nI (by omega), (hL i (by omega)).2 _ (hp i hin)]
      have hi4 : vp_in (nI i) 4 := vp_in_nI (by omega) (by decide)
      refine ⟨hi4, hi4, vp_in_nI (by omega) (by decide), w_laneZ (by omega) (by omega) (by omega) (hw _ _ ⟨i + 1, by omega, nI_1 i, ?_⟩ ?_)⟩
      · rw [jZ_add]
        congr 1
        show _ = (2047 + 2048) * pw d + (sZ (zC d lam p 2047) i + (zC d lam p 2047 i + 2048) * pw i)
        rw [zC_n (by omega)]
        omega
      · rw [nI_1, cl_nI (by omega), cl_nI (by omega)]
        omega
  · show _ = jZ ((2047 + 2048) * pw d + 0)
    rw [Int.add_zero]
theorem zC_bd (hV : FV (d + 1) nf v scores FP PS) (hl : ∀ a, a < d + 1 → LV nf (fun k => (v k a).toInt) (m a) (lam a)) (hp : ∀ a, a < d → p a ≤ m a) {x : Int} (hx : -2000 ≤ x ∧ x ≤ 2047) : ∀ a, a < d + 1 → -2000 ≤ zC d lam p x a ∧ zC d lam p x a ≤ 2047 := fun a ha => by
  by_cases q : a = d
  · subst q
    rw [zC_d]
    exact hx
  · rw [zC_n q]
    have := lam_bd hV ha (hl a ha) (hp a (by omega))
    omega
theorem x_addBox (hV : FV (d + 1) nf v scores FP PS) (hl : ∀ a, a < d + 1 → LV nf (fun k => (v k a).toInt) (m a) (lam a)) (hL : CL (d + 1) m lam levels ends) (hp : ∀ a, a < d → p a ≤ m a) (hc : ∀ a, a < d → chosen a = nI (p a)) {corners : Nat → Int64} {sz : Nat} (hsz : sz < 2197) {post : (Nat → Int64) → Int32 → Prop}
    (h1 : isB nf d v m lam p → post (vp_updL corners sz (PK (d + 1) (zB nf d v m lam p))) (nI (sz + 1))) (h0 : ¬ isB nf d v m lam p → post corners (nI sz)) : wp_X0_addBox scores (nI nf) chosen corners ends (nI d) levels (jZ (oZ (d + 1))) (nI sz) (PK (d + 1) (zC d lam p 2047)) post := by
  have hV' := hV
  obtain ⟨v1, v2, v3⟩ := hV'
  have hld := hl d (by omega)
  have zb := zC_bd hV hl hp (x := 2047) (by omega)
  unfold wp_X0_addBox
  have eo : PK (d + 1) (zC d lam p 2047) - jZ (oZ (d + 1)) = PK (d + 1) (fun a => zC d lam p 2047 a - 1) := by
    rw [PK_s v2 (fun a ha => by have := zb a ha; omega), PK_s v2 (fun a ha => by have := zb a ha; omega), jZ_sub, sZ_dec]
  rw [eo]
  refine x_leastLast hV (by omega) hld ⟨(hL d (by omega)).1, (hL d (by omega)).2 _ (Nat.le_refl _)⟩ (fun a ha => by have := zb a ha; omega) (fun j hj => ?_)
  have ej : qB nf d v m lam p = j := by
    refine qL_of hld (LL_congr (fun k hk => ?_) hj)
    constructor
    · intro c a ha
      have := c a (by omega)
      rw [zC_n (by omega)] at this
      omega
    · intro c a ha
      by_cases q : a = d
      · subst q
        rw [zC_d]
        have := (v3 k hk).1 a ha
        omega
      · rw [zC_n q]
        have := c a (by omega)
        omega
  have bj := lam_bd hV (show d < d + 1 by omega) hld hj.1
  refine w_laneZ (v := 2047) (by omega) (by omega) (by omega) (w_laneZ (by omega) (by omega) (by omega) ?_)
  have zB' : zB nf d v m lam p = zC d lam p (lam d j) := by
    unfold zB
    rw [ej]
  have zbb := zC_bd hV hl hp (x := lam d j) (by omega)
  have ec : PK (d + 1) (zC d lam p 2047) - jZ ((2047 + 2048) * pw d) + jZ ((lam d j + 2048) * pw d) = PK (d + 1) (zB nf d v m lam p) := by
    rw [zB', PK_s v2 (fun a ha => by have := zb a ha; omega), PK_s v2 (fun a ha => by have := zbb a ha; omega), jZ_sub, jZ_add]
    congr 1
    have e2 : zC d lam p (lam d j) = zupd (zC d lam p 2047) d (lam d j) := by
      funext b
      by_cases q : b = d
      · subst q
        rw [zC_d, zu_s]
      · rw [zC_n q, zu_n q, zC_n q]
    rw [e2, sZ_upd _ (by omega), zC_d]
  refine Lq1_inv (fun ii => ∃ i : Nat, i ≤ d ∧ ii = nI i ∧ ∀ a, a < i → p a = m a ∨ ∃ k, k < nf ∧ ∀ b, b < d + 1 → (v k b).toInt < zupd (zB nf d v m lam p) a (lam a (p a + 1)) b) (fun i => d - i.toNatClampNeg) ?_ _ ⟨0, Nat.zero_le _, rfl, fun k hk => absurd hk (Nat.not_lt_zero _)⟩
  rintro ii ⟨i, hi, rfl, j2⟩ w hw
  unfold b_X0_addBox_40
  rw [ec]
  refine ⟨fun hle => ?_, fun hlt => ?_⟩
  · have : d ≤ i := (nI_leI (by omega) (by omega)).mp hle
    have e : i = d := by omega
    subst e
    refine ⟨fun z => absurd ((nI_leI (a := 2197) (by omega) (by omega)).mp z) (by omega), fun _ => ⟨vp_in_nI (by omega) (by decide), ?_⟩⟩
    rw [cl_nI (by omega), nI_1]
    exact h1 j2
  · have hin := nI_leN (by omega) (by omega) hlt
    have dec : d - (nI i + 1).toNatClampNeg < d - (nI i).toNatClampNeg := by
      rw [nI_1, cl_nI (by omega), cl_nI (by omega)]
      omega
    have hm := (hl i (by omega)).2.1
    have hpi := hp i hin
    have hi4 : vp_in (nI i) 4 := vp_in_nI (by omega) (by decide)
    rw [cl_nI (by omega), hc i hin, (hL i (by omega)).1]
    refine ⟨hi4, hi4, fun z => ?_, fun z => ?_⟩
    · have z' := (nI_leI (by omega) (by omega)).mp z
      refine hw _ ⟨i + 1, by omega, nI_1 i, fun a ha => ?_⟩ dec
      rcases Nat.lt_or_ge a i with q | q
      · exact j2 a q
      · have : a = i := by omega
        subst this
        exact Or.inl (by omega)
    · have z' := nI_leN (by omega) (by omega) z
      have bi := lam_bd hV (show i < d + 1 by omega) (hl i (by omega)) (show p i ≤ m i by omega)
      have bi1 := lam_bd hV (show i < d + 1 by omega) (hl i (by omega)) (show p i + 1 ≤ m i by omega)
      have li := (hl i (by omega)).2.2.1 (p i) (p i + 1) (by omega) (by omega)
      rw [nI_1, cl_nI (by omega), cl_nI (by omega), (hL i (by omega)).2 _ (show p i + 1 ≤ m i by omega), (hL i (by omega)).2 _ (show p i ≤ m i by omega)]
      refine ⟨hi4, hi4, vp_in_nI (by omega) (by decide), hi4, hi4, vp_in_nI (by omega) (by decide), w_place (by omega) ?_⟩
      have e3 : (iZ (lam i (p i + 1)) - iZ (lam i (p i))) = nI (lam i (p i + 1) - lam i (p i)).toNat := by
        rw [iZ_sub, ← iZ_nat, Int.toNat_of_nonneg (by omega)]
      have e4 : PK (d + 1) (zB nf d v m lam p) + jZ ((((lam i (p i + 1) - lam i (p i)).toNat : Nat) : Int) * pw i) = PK (d + 1) (zupd (zB nf d v m lam p) i (lam i (p i + 1))) := by
        rw [zB', PK_s v2 (fun a ha => by have := zbb a ha; omega), PK_s v2 (fun a ha => ?_), jZ_add]
        · congr 1
          rw [sZ_upd _ (by omega), zC_n (by omega), Int.toNat_of_nonneg (by omega), Int.sub_mul, Int.add_mul, Int.add_mul]
          omega
        · by_cases q : a = i
          · subst q
            rw [zu_s]
            omega
          · rw [zu_n q]
            have := zbb a ha
            omega
      rw [e3, shl_Z (by omega) (by omega), e4]
      refine x_holdsScore hV (fun a ha => ?_) (fun c => ⟨fun z => absurd z (by decide), fun _ => hw _ ⟨i + 1, by omega, nI_1 i, fun a ha => ?_⟩ dec⟩) (fun c => ⟨fun _ => h0 (fun y => ?_), fun z => absurd rfl z⟩)
      · by_cases q : a = i
        · subst q
          rw [zu_s]
          omega
        · rw [zu_n q, zB']
          have := zbb a ha
          omega
      · rcases Nat.lt_or_ge a i with q | q
        · exact j2 a q
        · have : a = i := by omega
          subst this
          exact Or.inr c
      · rcases y i hin with q | q
        · omega
        · exact c q
theorem x_addContent (hV : FV (d + 1) nf v scores FP PS) (hl : ∀ a, a < d + 1 → LV nf (fun k => (v k a).toInt) (m a) (lam a)) (hL : CL (d + 1) m lam levels ends) (hp : ∀ a, a < d → p a ≤ m a) (hc : ∀ a, a < d → chosen a = nI (p a)) {content : Int} {post : Int64 → Prop}
    (h : post (jZ (content + cv nf d v m lam p))) : wp_X0_addContent scores (nI nf) chosen (jZ content) ends (nI d) levels (PK (d + 1) (zC d lam p 2047)) post := by
  have hV' := hV
  obtain ⟨v1, v2, v3⟩ := hV'
  have hld := hl d (by omega)
  have hmd := hld.2.1
  have zb := zC_bd hV hl hp (x := 2047) (by omega)
  unfold wp_X0_addContent
  have hd4 : vp_in (nI d) 4 := vp_in_nI (by omega) (by decide)
  rw [cl_nI (by omega), (hL d (by omega)).1, cl_nI (by omega), (hL d (by omega)).2 _ (Nat.le_refl _)]
  refine ⟨hd4, hd4, vp_in_nI (by omega) (by decide), ?_⟩
  refine x_leastLast hV (by omega) hld ⟨(hL d (by omega)).1, (hL d (by omega)).2 _ (Nat.le_refl _)⟩ (fun a ha => by have := zb a ha; omega) (fun j hj => ?_)
  have ej : qV nf d v m lam p = j := by
    refine qL_of hld (LL_congr (fun k hk => ?_) hj)
    constructor
    · intro c a ha
      have := c a (by omega)
      rw [zC_n (by omega)] at this
      exact this
    · intro c a ha
      by_cases q : a = d
      · subst q
        rw [zC_d]
        have := (v3 k hk).1 a ha
        omega
      · rw [zC_n q]
        exact c a (by omega)
  have bj := lam_bd hV (show d < d + 1 by omega) hld hj.1
  have bm := lam_bd hV (show d < d + 1 by omega) hld (Nat.le_refl _)
  rw [iZ_sub, iZ_j (by omega) (by omega)]
  refine Lq2_inv (fun s ii => ∃ i : Nat, i ≤ d ∧ ii = nI i ∧ s = jZ ((lam d (m d) - lam d j) * wW lam p i) ∧ ∀ a, a < i → p a < m a) (fun _ i => d - i.toNatClampNeg) ?_ _ _ ⟨0, Nat.zero_le _, rfl, ?_, fun k hk => absurd hk (Nat.not_lt_zero _)⟩
  · rintro s ii ⟨i, hi, rfl, rfl, j2⟩ w hw
    unfold b_X0_addContent_32
    refine ⟨fun hle => ?_, fun hlt => ?_⟩
    · have : d ≤ i := (nI_leI (by omega) (by omega)).mp hle
      have e : i = d := by omega
      subst e
      unfold cv at h
      rw [if_pos j2, ej] at h
      show post (jZ content + jZ _)
      rw [jZ_add]
      exact h
    · have hin := nI_leN (by omega) (by omega) hlt
      have hm := (hl i (by omega)).2.1
      have hpi := hp i hin
      have hi4 : vp_in (nI i) 4 := vp_in_nI (by omega) (by decide)
      rw [cl_nI (by omega), hc i hin, (hL i (by omega)).1]
      refine ⟨hi4, hi4, fun z => ?_, fun z => ?_⟩
      · have z' := (nI_ltI (by omega) (by omega)).mp z
        have bi := lam_bd hV (show i < d + 1 by omega) (hl i (by omega)) (show p i ≤ m i by omega)
        have bi1 := lam_bd hV (show i < d + 1 by omega) (hl i (by omega)) (show p i + 1 ≤ m i by omega)
        rw [nI_1, cl_nI (by omega), cl_nI (by omega), (hL i (by omega)).2 _ (show p i + 1 ≤ m i by omega), (hL i (by omega)).2 _ (show p i ≤ m i by omega), iZ_sub, iZ_j (by omega) (by omega), jZ_mul]
        refine ⟨hi4, hi4, vp_in_nI (by omega) (by decide), hi4, hi4, vp_in_nI (by omega) (by decide), hw _ _ ⟨i + 1, by omega, nI_1 i, ?_, fun a ha => ?_⟩ ?_⟩
        · rw [Int.mul_assoc]
          rfl
        · rcases Nat.lt_or_ge a i with q | q
          · exact j2 a q
          · have : a = i := by omega
            subst this
            exact z'
        · rw [nI_1, cl_nI (by omega), cl_nI (by omega)]
          omega
      · unfold cv at h
        rw [if_neg (fun y => z ((nI_ltI (by omega) (by omega)).mpr (y i hin))), Int.add_zero] at h
        exact h
  · show _ = jZ ((lam d (m d) - lam d j) * 1)
    rw [Int.mul_one]
end WORK
end BOX

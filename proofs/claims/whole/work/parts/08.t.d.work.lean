/-! ===== the class's walk over all choices of levels ===== -/
def sumZ (f : Nat → Int) : Nat → Int
  | 0 => 0
  | n + 1 => sumZ f n + f n
theorem wR_le {R : Nat → Nat} : ∀ (d : Nat), (∀ a, a < d → R a ≤ 13) → wR R d ≤ 13 ^ d
  | 0, _ => Nat.le_refl 1
  | d + 1, h => Nat.mul_le_mul (wR_le d (fun a ha => h a (by omega))) (h d (Nat.lt_succ_self d))
theorem wR_2197 {R : Nat → Nat} {d : Nat} (hd : d ≤ 3) (h : ∀ a, a < d → R a ≤ 13) : wR R d ≤ 2197 := by
  refine Nat.le_trans (wR_le d h) ?_
  match d, hd with
  | 0, _ => decide
  | 1, _ => decide
  | 2, _ => decide
  | 3, _ => decide
section W
variable {nf d : Nat} {v : Nat → Nat → Int32} {scores : Nat → Int64} {FP PS : Nat → Int32}
/-- the choice number t is a box -/
def iB (nf d : Nat) (v : Nat → Nat → Int32) (m : Nat → Nat) (lam : Nat → Nat → Int) (t : Nat) : Prop := isB nf d v m lam (dg (fun a => m a + 1) d t)
/-- what the class keeps: how many boxes, their corners, the volume -/
def BX (nf d : Nat) (v : Nat → Nat → Int32) (m : Nat → Nat) (lam : Nat → Nat → Int) (T : Nat) (size : Int32) (content : Int64) (corners : Nat → Int64) : Prop :=
  size = nI (cP (iB nf d v m lam) T) ∧ content = jZ (sumZ (fun t => cv nf d v m lam (dg (fun a => m a + 1) d t)) T) ∧ ∀ j, j < cP (iB nf d v m lam) T → corners j = PK (d + 1) (zB nf d v m lam (dg (fun a => m a + 1) d (pn (iB nf d v m lam) j)))
/-- the levels of all aims -/
def LVs (nf na : Nat) (v : Nat → Nat → Int32) (m : Nat → Nat) (lam : Nat → Nat → Int) : Prop := ∀ a, a < na → LV nf (fun k => (v k a).toInt) (m a) (lam a)
theorem one_shl {a : Nat} (ha : a < 4) : (1 : Int64) <<< ((nI (48 - 16 * a)).toInt64 &&& 63) = jZ (pw a) := by
  have h := shl_Z (n := 1) ha (by omega)
  have e : (nI 1).toInt64 = (1 : Int64) := by decide
  rw [e] at h
  rw [h]
  congr 1
  omega
theorem x_work (hV : FV (d + 1) nf v scores FP PS) (hn0 : 0 < nf) (hn12 : nf ≤ 12) {chosen ends : Nat → Int32} {content ones : Int64} {corners : Nat → Int64} {last size : Int32} {levels : Nat → Nat → Int32} {post : (Nat → Int32) → Int64 → (Nat → Int64) → (Nat → Int32) → Int32 → (Nat → Nat → Int32) → Int64 → Int32 → Int32 → Prop}
    (h : ∀ (m : Nat → Nat) (lam : Nat → Nat → Int) (ch en : Nat → Int32) (co : Int64) (cr : Nat → Int64) (lv : Nat → Nat → Int32) (on : Int64) (sz : Int32), LVs nf (d + 1) v m lam → BX nf d v m lam (wR (fun a => m a + 1) d) sz co cr → post ch co cr en (nI d) lv on sz 1) :
    wp_X0_work scores (nI nf) chosen content corners ends last levels ones size 0 (nI (d + 1)) post := by
  have hV' := hV
  obtain ⟨v1, v2, v3⟩ := hV'
  unfold wp_X0_work
  refine ⟨fun _ => ⟨fun z => absurd ((nI_ltI (b := 1) (by omega) (by omega)).mp z) (by omega), fun _ => ?_⟩, fun z => absurd rfl z⟩
  unfold wp_X0_fits
  refine ⟨fun z => absurd ((nI_leI (b := 0) (by omega) (by omega)).mp z) (by omega), fun _ => ⟨fun z => absurd ((nI_ltI (a := 12) (by omega) (by omega)).mp z) (by omega), fun _ => ⟨fun z => absurd z (by decide), fun _ => ?_⟩⟩⟩
  refine Lq5_inv (fun aa ch en lv on => ∃ (j : Nat) (m : Nat → Nat), j ≤ d + 1 ∧ aa = nI j ∧ (∀ a, a < j → LV nf (fun k => (v k a).toInt) (m a) (fun i => (lv a i).toInt)) ∧ (∀ a, a < j → en a = nI (m a)) ∧ (∀ a, a < j → ch a = 0) ∧ on = jZ (oZ j)) (fun aa _ _ _ _ => d + 1 - aa.toNatClampNeg) ?_ _ _ _ _ _ ⟨0, fun _ => 0, Nat.zero_le _, rfl, fun a ha => absurd ha (Nat.not_lt_zero _), fun a ha => absurd ha (Nat.not_lt_zero _), fun a ha => absurd ha (Nat.not_lt_zero _), rfl⟩
  rintro aa ch en lv on ⟨j, m, hj, rfl, i1, i2, i3, rfl⟩ w hw
  unfold b_X0_work_50
  refine ⟨fun hle => ?_, fun hlt => ?_⟩
  · have : d + 1 ≤ j := (nI_leI (by omega) (by omega)).mp hle
    have e : j = d + 1 := by omega
    subst e
    clear hw hle w
    have hl : LVs nf (d + 1) v m (fun a i => (lv a i).toInt) := i1
    have hL : CL (d + 1) m (fun a i => (lv a i).toInt) lv en := fun a ha => ⟨i2 a ha, fun i hi => (iZ_of _).symm⟩
    have h' := h m (fun a i => (lv a i).toInt)
    generalize (fun a i => (lv a i).toInt) = lam at hl hL h'
    have hR13 : ∀ a, a < d → (fun a => m a + 1) a ≤ 13 := fun a ha => by
      have := (hl a (by omega)).2.1
      show m a + 1 ≤ 13
      omega
    have hT := wR_2197 (R := fun a => m a + 1) (by omega) hR13
    have hRp : ∀ a, a < d → 1 ≤ (fun a => m a + 1) a := fun a ha => by
      show 1 ≤ m a + 1
      omega
    have hT1 := wR_pos (R := fun a => m a + 1) d hRp
    rw [nI_pred]
    refine Lq5_inv (fun rr ch co cr sz => ∃ t : Nat, t < wR (fun a => m a + 1) d ∧ rr = nI t ∧ (∀ a, a < d → ch a = nI (dg (fun a => m a + 1) d t a)) ∧ BX nf d v m lam t sz co cr) (fun rr _ _ _ _ => 2197 - rr.toNatClampNeg) ?_ _ _ _ _ _ ⟨0, by omega, rfl, fun a ha => ?_, rfl, rfl, fun j hj => absurd hj (Nat.not_lt_zero _)⟩
    · rintro rr ch' co cr sz ⟨t, ht, rfl, c1, rfl, rfl, c2⟩ w hw
      unfold b_X0_work_91
      rw [nI_pred]
      have hp : ∀ a, a < d → dg (fun a => m a + 1) d t a ≤ m a := fun a ha => by
        have : dg (fun a => m a + 1) d t a < m a + 1 := dg_lt d t a hRp ha
        omega
      have hcp := cP_le (Pl := iB nf d v m lam) t
      refine x_openCorner hV hl hL hp c1 ?_
      have rest : ∀ (cr' : Nat → Int64) (co' : Int64), BX nf d v m lam (t + 1) (nI (cP (iB nf d v m lam) (t + 1))) co' cr' → wp_X0_chooseNext ch' en (nI d) (fun (r_115 : Int32) (c_this_chosen_115 : Nat → Int32) => ((r_115 = 0 → post c_this_chosen_115 co' cr' en (nI d) lv (jZ (oZ (d + 1))) (nI (cP (iB nf d v m lam) (t + 1))) (1 : Int32)) ∧ (¬ r_115 = 0 → (((nI t + (1 : Int32)) < (2197 : Int32) → w (nI t + (1 : Int32)) c_this_chosen_115 co' cr' (nI (cP (iB nf d v m lam) (t + 1)))) ∧ (¬ (nI t + (1 : Int32)) < (2197 : Int32) → post c_this_chosen_115 co' cr' en (nI d) lv (jZ (oZ (d + 1))) (nI (cP (iB nf d v m lam) (t + 1))) (1 : Int32)))))) := fun cr' co' hb => by
        refine x_chooseNext (by omega) (fun a ha => (hl a (by omega)).2.1) (fun a ha => (hL a (by omega)).1) ht c1 (fun q g' g1 => ⟨fun z => absurd z (by decide), fun _ => ⟨fun _ => ?_, fun z => absurd ((nI_ltI (b := 2197) (by omega) (by omega)).mpr (show t + 1 < 2197 by omega)) (by rw [nI_1] at z; exact z)⟩⟩) (fun q g' g1 => ⟨fun _ => ?_, fun z => absurd rfl z⟩)
        · refine hw _ _ _ _ _ ⟨t + 1, q, nI_1 t, g1, hb⟩ ?_
          rw [nI_1, cl_nI (by omega), cl_nI (by omega)]
          omega
        · rw [q] at hb ⊢
          exact h' _ _ _ _ _ _ _ hl hb
      have eqs : ∀ c : Int64, c = jZ (sumZ (fun t => cv nf d v m lam (dg (fun a => m a + 1) d t)) t + cv nf d v m lam (dg (fun a => m a + 1) d t)) → c = jZ (sumZ (fun t => cv nf d v m lam (dg (fun a => m a + 1) d t)) (t + 1)) := fun c e => e
      refine x_addBox hV hl hL hp c1 (by omega) (fun hb => ?_) (fun hb => ?_)
      · have hb' : iB nf d v m lam t := hb
        refine x_addContent hV hl hL hp c1 ?_
        have r := rest (vp_updL cr (cP (iB nf d v m lam) t) (PK (d + 1) (zB nf d v m lam (dg (fun a => m a + 1) d t)))) _ ⟨rfl, eqs _ rfl, fun j hj => ?_⟩
        · rw [cP_yes hb'] at r
          exact r
        · rw [cP_yes hb'] at hj
          by_cases q : j = cP (iB nf d v m lam) t
          · subst q
            rw [updL_s, pn_of hb']
          · rw [updL_n q]
            exact c2 j (by omega)
      · have hb' : ¬ iB nf d v m lam t := hb
        refine x_addContent hV hl hL hp c1 ?_
        have r := rest cr _ ⟨rfl, eqs _ rfl, fun j hj => ?_⟩
        · rw [cP_no hb'] at r
          exact r
        · rw [cP_no hb'] at hj
          exact c2 j hj
    · rw [dg_zero]
      exact i3 a (by omega)
  · have hjn := nI_leN (by omega) (by omega) hlt
    refine w_place (by omega) (x_setLevels hV hn0 hn12 hjn (fun m' row hlv => ?_))
    rw [cl_nI (by omega), one_shl (by omega), jZ_add]
    refine ⟨vp_in_nI (by omega) (by decide), hw _ _ _ _ _ ⟨j + 1, updG m j m', by omega, nI_1 j, fun a ha => ?_, fun a ha => ?_, fun a ha => ?_, rfl⟩ ?_⟩
    · by_cases q : a = j
      · subst q
        rw [updG_s, updG_s]
        exact hlv
      · rw [updG_n q, updG_n q]
        exact i1 a (by omega)
    · by_cases q : a = j
      · subst q
        rw [updG_s, upd_s]
      · rw [updG_n q, upd_n q]
        exact i2 a (by omega)
    · by_cases q : a = j
      · subst q
        exact upd_s
      · rw [upd_n q]
        exact i3 a (by omega)
    · rw [nI_1, cl_nI (by omega), cl_nI (by omega)]
      omega
end W

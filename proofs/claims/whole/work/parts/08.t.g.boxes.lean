/-! ===== boxes(), box(), volume() ===== -/
section FIN
variable {na nf : Nat} {v : Nat → Nat → Int32} {scores : Nat → Int64} {FP PS : Nat → Int32} {chosen ends : Nat → Int32} {content ones : Int64} {corners : Nat → Int64} {last size worked : Int32} {levels : Nat → Nat → Int32} {number numbers place : Nat → Int32}
/-- what is kept is right, if something is kept -/
def KB (na nf : Nat) (v : Nat → Nat → Int32) (worked size : Int32) (content : Int64) (corners : Nat → Int64) : Prop := ¬ worked = 0 → 0 < na ∧ 0 < nf ∧ nf ≤ 12 ∧ ∃ (m : Nat → Nat) (lam : Nat → Nat → Int), LVs nf na v m lam ∧ BX nf (na - 1) v m lam (wR (fun a => m a + 1) (na - 1)) size content corners
theorem x_work2 (hV : FV na nf v scores FP PS) (hna : 0 < na) (hn0 : 0 < nf) (hn12 : nf ≤ 12) (hk : KB na nf v worked size content corners) {post : (Nat → Int32) → Int64 → (Nat → Int64) → (Nat → Int32) → Int32 → (Nat → Nat → Int32) → Int64 → Int32 → Int32 → Prop}
    (h : ∀ (m : Nat → Nat) (lam : Nat → Nat → Int) (ch en : Nat → Int32) (co : Int64) (cr : Nat → Int64) (la : Int32) (lv : Nat → Nat → Int32) (on : Int64) (sz wk : Int32), LVs nf na v m lam → BX nf (na - 1) v m lam (wR (fun a => m a + 1) (na - 1)) sz co cr → KB na nf v wk sz co cr → post ch co cr en la lv on sz wk) :
    wp_X0_work scores (nI nf) chosen content corners ends last levels ones size worked (nI na) post := by
  by_cases hw : worked = 0
  · subst hw
    obtain ⟨d, rfl⟩ : ∃ d, na = d + 1 := ⟨na - 1, by omega⟩
    refine x_work hV hn0 hn12 (fun m lam ch en co cr lv on sz hl hb => ?_)
    exact h m lam ch en co cr (nI d) lv on sz 1 hl hb (fun _ => ⟨hna, hn0, hn12, m, lam, hl, hb⟩)
  · obtain ⟨-, -, -, m, lam, hl, hb⟩ := hk hw
    unfold wp_X0_work
    exact ⟨fun z => absurd z hw, fun _ => h m lam _ _ _ _ _ _ _ _ _ hl hb hk⟩
theorem w_fits {n : Nat} (hn : n ≤ 2000) {post : Int32 → Prop} (h1 : 0 < n → n ≤ 12 → post 1) (h0 : n = 0 ∨ 12 < n → post 0) : wp_X0_fits (nI n) post := by
  unfold wp_X0_fits
  refine ⟨fun z => h0 (Or.inl ?_), fun z => ⟨fun z2 => h0 (Or.inr ((nI_ltI (a := 12) (by omega) (by omega)).mp z2)), fun z2 => h1 (nI_leN (b := 0) (by omega) (by omega) z) ?_⟩⟩
  · have := (nI_leI (b := 0) (by omega) (by omega)).mp z
    omega
  · rcases Nat.lt_or_ge 12 n with q | q
    · exact absurd ((nI_ltI (a := 12) (by omega) (by omega)).mpr q) z2
    · exact q
theorem w_isFar {n : Nat} (hn : n ≤ 2000) {post : Int32 → Prop} (h1 : 0 < n → n ≤ 12 → post 0) (h0 : n = 0 ∨ 12 < n → post 1) : wp_X7_isFar (nI n) post := by
  unfold wp_X7_isFar
  refine nf_z (by omega) (fun e => h0 (Or.inl e)) (fun p => ⟨fun z => h1 p ((nI_leI (b := 12) (by omega) (by omega)).mp z), fun z => h0 (Or.inr (nI_leN (b := 12) (by omega) (by omega) z))⟩)
theorem BX_size {d : Nat} (hd : d ≤ 3) {m : Nat → Nat} {lam : Nat → Nat → Int} (hl : LVs nf (d + 1) v m lam) : cP (iB nf d v m lam) (wR (fun a => m a + 1) d) ≤ 2197 ∧ wR (fun a => m a + 1) d ≤ 2197 := by
  have hT := wR_2197 (R := fun a => m a + 1) hd (fun a ha => by
    have := (hl a (by omega)).2.1
    show m a + 1 ≤ 13
    omega)
  exact ⟨Nat.le_trans (cP_le _) hT, hT⟩
theorem m_boxes (hV : FV na nf v scores FP PS) (hna : 0 < nf → 0 < na) (hk : KB na nf v worked size content corners)
    {K : Int32 → (Nat → Int32) → Int64 → (Nat → Int64) → (Nat → Int32) → Int32 → (Nat → Nat → Int32) → Int64 → Int32 → Int32 → Int32 → (Nat → Int32) → (Nat → Int32) → (Nat → Int32) → Prop}
    (hK : ∀ r ch co cr en la lv on sz wk nb nbs pl, KB na nf v wk sz co cr → K r ch co cr en la lv on sz wk r nb nbs pl) :
    wp_X6_boxes chosen content corners ends last levels ones size worked scores (nI nf) (nI na) (fun r ch co cr en la lv on sz wk => wp_X7_boxes (nI na) (nI nf) FP number numbers place PS (fun r' nb nbs pl => K r ch co cr en la lv on sz wk r' nb nbs pl)) := by
  have hV' := hV
  obtain ⟨v1, v2, v3⟩ := hV'
  unfold wp_X6_boxes wp_X7_boxes
  refine w_fits v1 (fun hp h12 => ⟨fun z => absurd z (by decide), fun _ => ?_⟩) (fun q => ⟨fun _ => ?_, fun z => absurd rfl z⟩)
  · refine x_work2 hV (hna hp) hp h12 hk (fun m lam ch en co cr la lv on sz wk hl hb hkb => ?_)
    obtain ⟨d, rfl⟩ : ∃ d, na = d + 1 := ⟨na - 1, by have := hna hp; omega⟩
    refine w_isFar v1 (fun _ _ => ⟨fun _ => ?_, fun z => absurd rfl z⟩) (fun z => absurd z (by omega))
    obtain ⟨b1, b2, b3⟩ := id hb
    have bs := BX_size (d := d) (by omega) hl
    refine y_goBoxes (n := 100000) hV hp hl (by omega) (fun t nb nbs pl ht _ ec => ?_) (fun nb nbs pl _ => ?_)
    · have := cP_le (Pl := iB nf d v m lam) t
      omega
    · rw [b1] at hkb ⊢
      exact hK _ _ _ _ _ _ _ _ _ _ _ _ _ hkb
  · exact w_isFar v1 (fun h1 h2 => absurd q (by omega)) (fun _ => ⟨fun z => absurd z (by decide), fun _ => hK _ _ _ _ _ _ _ _ _ _ _ _ _ hk⟩)
theorem m_box (hV : FV na nf v scores FP PS) (hk : KB na nf v worked size content corners) {x1 x2 : Int32}
    {K : Int32 → (Nat → Int32) → Int64 → (Nat → Int64) → (Nat → Int32) → Int32 → (Nat → Nat → Int32) → Int64 → Int32 → Int32 → Int32 → (Nat → Int32) → (Nat → Int32) → (Nat → Int32) → Prop}
    (hK : ∀ r ch co cr en la lv on sz wk nb nbs pl, KB na nf v wk sz co cr → K r ch co cr en la lv on sz wk r nb nbs pl) :
    wp_X6_box chosen content corners ends last levels ones size worked scores (nI nf) (nI na) x1 x2 (fun r ch co cr en la lv on sz wk => wp_X7_box (nI na) (nI nf) FP number numbers place PS x1 x2 (fun r' nb nbs pl => K r ch co cr en la lv on sz wk r' nb nbs pl)) := by
  have hV' := hV
  obtain ⟨v1, v2, v3⟩ := hV'
  unfold wp_X6_box wp_X7_box
  refine w_amongN (by omega) (fun a ha ea => ⟨fun z => absurd z (by decide), fun _ => ?_⟩) (fun ha => ⟨fun _ => ?_, fun z => absurd rfl z⟩)
  · subst ea
    refine w_fits v1 (fun hp h12 => ⟨fun z => absurd z (by decide), fun _ => ?_⟩) (fun q => ⟨fun _ => ?_, fun z => absurd rfl z⟩)
    · refine x_work2 hV (by omega) hp h12 hk (fun m lam ch en co cr la lv on sz wk hl hb hkb => ?_)
      obtain ⟨d, rfl⟩ : ∃ d, na = d + 1 := ⟨na - 1, by omega⟩
      have hb' := hb
      obtain ⟨rfl, b2, b3⟩ := hb
      have bs := BX_size (d := d) (by omega) hl
      have eT : wR (fun a => m a + 1) (d + 1 - 1) = wR (fun a => m a + 1) d := rfl
      rw [eT] at *
      rw [show d + 1 - 1 = d from rfl] at *
      have pre : ∀ {k : Int32 → (Nat → Int32) → (Nat → Int32) → (Nat → Int32) → Prop}, ((x1 < 0 → k (-1000001 : Int32) number numbers place) ∧ (¬ x1 < 0 → (((100000 : Int32) < x1 → k (-1000001 : Int32) number numbers place) ∧ (¬ (100000 : Int32) < x1 → wp_X7_goBoxes (nI (d + 1)) (nI nf) FP number numbers place PS x1 (fun (r_33 : Int32) (nb nbs pl : Nat → Int32) => ((x1 < r_33 → vp_in (nI a) 4 ∧ vp_in (((13 : Int32) * (nI a)) + (pl (nI a).toNatClampNeg)) 52 ∧ k (nb ((((13 : Int32) * (nI a)) + (pl (nI a).toNatClampNeg))).toNatClampNeg) nb nbs pl) ∧ (¬ x1 < r_33 → k (-1000001 : Int32) nb nbs pl))))))) → wp_X7_isAim (nI (d + 1)) (nI a) (fun (r_2 : Int32) => ((r_2 = 0 → k (-1000001 : Int32) number numbers place) ∧ (¬ r_2 = 0 → wp_X7_isFar (nI nf) (fun (r_12 : Int32) => ((r_12 = 0 → ((x1 < 0 → k (-1000001 : Int32) number numbers place) ∧ (¬ x1 < 0 → (((100000 : Int32) < x1 → k (-1000001 : Int32) number numbers place) ∧ (¬ (100000 : Int32) < x1 → wp_X7_goBoxes (nI (d + 1)) (nI nf) FP number numbers place PS x1 (fun (r_33 : Int32) (nb nbs pl : Nat → Int32) => ((x1 < r_33 → vp_in (nI a) 4 ∧ vp_in (((13 : Int32) * (nI a)) + (pl (nI a).toNatClampNeg)) 52 ∧ k (nb ((((13 : Int32) * (nI a)) + (pl (nI a).toNatClampNeg))).toNatClampNeg) nb nbs pl) ∧ (¬ x1 < r_33 → k (-1000001 : Int32) nb nbs pl)))))))) ∧ (¬ r_12 = 0 → k (-1000002 : Int32) number numbers place)))))) := fun {k} hh => by
        refine w_isAim (by omega) (fun _ _ _ => ⟨fun z => absurd z (by decide), fun _ => ?_⟩) (fun z => absurd rfl (z a ha))
        exact w_isFar v1 (fun _ _ => ⟨fun _ => hh, fun z => absurd rfl z⟩) (fun z => absurd z (by omega))
      refine w_amongN (by omega) (fun i hi ei => ⟨fun z => absurd z (by decide), fun _ => ⟨?_, ?_⟩⟩) (fun hi => ⟨fun _ => ?_, fun z => absurd rfl z⟩)
      · subst ei
        exact vp_in_nI (by omega) (by decide)
      · subst ei
        have hpn := pn_has _ i hi
        have hpm : ∀ t a, a < d → dg (fun a => m a + 1) d t a ≤ m a := fun t a ha => by
          have : dg (fun a => m a + 1) d t a < m a + 1 := dg_lt d t a (fun a _ => by show 1 ≤ m a + 1; omega) ha
          omega
        have hqB := (qB_spec hl (dg (fun a => m a + 1) d (pn (iB nf d v m lam) i))).1
        have hbz : ∀ a, a < d + 1 → -2000 ≤ zB nf d v m lam (dg (fun a => m a + 1) d (pn (iB nf d v m lam) i)) a ∧ zB nf d v m lam (dg (fun a => m a + 1) d (pn (iB nf d v m lam) i)) a ≤ 2047 := by
          refine zC_bd hV hl (hpm _) ?_
          have := lam_bd hV (show d < d + 1 by omega) (hl d (by omega)) hqB
          omega
        rw [cl_nI (by omega), b3 i hi]
        unfold PK
        refine w_number (fun b hb => ?_) (by omega) ?_
        · unfold cZ
          split
          · rename_i q
            have := hbz b q
            omega
          · omega
        · have ez : iZ (((cZ (d + 1) (zB nf d v m lam (dg (fun a => m a + 1) d (pn (iB nf d v m lam) i))) a : Nat) : Int) - 2048) = iZ (zB nf d v m lam (dg (fun a => m a + 1) d (pn (iB nf d v m lam) i)) a) := by
            have := hbz a ha
            rw [cZ_in ha (by omega)]
            congr 1
            omega
          rw [ez]
          refine pre ⟨fun z => absurd z (nI_pos (by omega)), fun _ => ⟨fun z => absurd ((nI_ltI (a := 100000) (by omega) (by omega)).mp z) (by omega), fun _ => ?_⟩⟩
          refine y_goBoxes hV hp hl (by omega) (fun t nb nbs pl ht hbt ec hM g1 g2 => ?_) (fun nb nbs pl q => absurd q (by omega))
          refine ⟨fun _ => ?_, fun z => absurd ((nI_ltI (by omega) (by omega)).mpr (by omega)) z⟩
          have et : pn (iB nf d v m lam) i = t := by
            rw [← ec]
            exact pn_of hbt
          rw [et] at hqB ⊢
          have hm := (hl a ha).2.1
          rw [cl_nI (by omega)]
          by_cases q : a = d
          · subst q
            rw [g2, ix13, cl_nI (by omega), (hM a ha).2 _ hqB]
            refine ⟨vp_in_nI (by omega) (by decide), vp_in_nI (by omega) (by decide), ?_⟩
            unfold zB
            rw [zC_d]
            exact hK _ _ _ _ _ _ _ _ _ _ _ _ _ hkb
          · have := hpm t a (by omega)
            rw [g1 a (by omega), ix13, cl_nI (by omega), (hM a ha).2 _ this]
            refine ⟨vp_in_nI (by omega) (by decide), vp_in_nI (by omega) (by decide), ?_⟩
            unfold zB
            rw [zC_n q]
            exact hK _ _ _ _ _ _ _ _ _ _ _ _ _ hkb
      · refine pre ⟨fun _ => hK _ _ _ _ _ _ _ _ _ _ _ _ _ hkb, fun z => ⟨fun _ => hK _ _ _ _ _ _ _ _ _ _ _ _ _ hkb, fun z2 => ?_⟩⟩
        obtain ⟨i, hi2, rfl⟩ := nI_of z
        have hi3 : i ≤ 100000 := by
          rcases Nat.lt_or_ge 100000 i with q | q
          · exact absurd ((nI_ltI (a := 100000) (by omega) (by omega)).mpr q) z2
          · exact q
        have hge : cP (iB nf d v m lam) (wR (fun a => m a + 1) d) ≤ i := by
          rcases Nat.lt_or_ge i (cP (iB nf d v m lam) (wR (fun a => m a + 1) d)) with q | q
          · exact absurd rfl (hi i q)
          · exact q
        refine y_goBoxes hV hp hl hi3 (fun t nb nbs pl ht hbt ec _ _ _ => ?_) (fun nb nbs pl q => ⟨fun z => absurd ((nI_ltI (by omega) (by omega)).mp z) (by omega), fun _ => hK _ _ _ _ _ _ _ _ _ _ _ _ _ hkb⟩)
        have e1 := cP_mono (Pl := iB nf d v m lam) (show t + 1 ≤ wR (fun a => m a + 1) d from ht)
        rw [cP_yes hbt] at e1
        omega
    · refine w_isAim (by omega) (fun _ _ _ => ⟨fun z => absurd z (by decide), fun _ => ?_⟩) (fun z => absurd rfl (z a ha))
      exact w_isFar v1 (fun h1 h2 => absurd q (by omega)) (fun _ => ⟨fun z => absurd z (by decide), fun _ => hK _ _ _ _ _ _ _ _ _ _ _ _ _ hk⟩)
  · exact w_isAim (by omega) (fun j h e => absurd e (ha j h)) (fun z => ⟨fun _ => hK _ _ _ _ _ _ _ _ _ _ _ _ _ hk, fun z => absurd rfl z⟩)
theorem m_volume (hV : FV na nf v scores FP PS) (hna : 0 < nf → 0 < na) (hk : KB na nf v worked size content corners)
    {K : Int64 → (Nat → Int32) → Int64 → (Nat → Int64) → (Nat → Int32) → Int32 → (Nat → Nat → Int32) → Int64 → Int32 → Int32 → Int64 → (Nat → Int32) → (Nat → Int32) → (Nat → Int32) → Prop}
    (hK : ∀ r ch co cr en la lv on sz wk nb nbs pl, KB na nf v wk sz co cr → K r ch co cr en la lv on sz wk r nb nbs pl) :
    wp_X6_volume chosen content corners ends last levels ones size worked scores (nI nf) (nI na) (fun r ch co cr en la lv on sz wk => wp_X7_volume (nI na) (nI nf) FP number numbers place PS (fun r' nb nbs pl => K r ch co cr en la lv on sz wk r' nb nbs pl)) := by
  have hV' := hV
  obtain ⟨v1, v2, v3⟩ := hV'
  unfold wp_X6_volume
  refine nf_z (by omega) (fun e => ?_) (fun hp => w_fits v1 (fun _ h12 => ⟨fun z => absurd z (by decide), fun _ => ?_⟩) (fun q => ⟨fun _ => ?_, fun z => absurd rfl z⟩))
  · unfold wp_X7_volume
    exact nf_z (by omega) (fun _ => hK _ _ _ _ _ _ _ _ _ _ _ _ _ hk) (fun z => absurd z (by omega))
  · refine x_work2 hV (hna hp) hp h12 hk (fun m lam ch en co cr la lv on sz wk hl hb hkb => ?_)
    obtain ⟨d, rfl⟩ : ∃ d, na = d + 1 := ⟨na - 1, by have := hna hp; omega⟩
    obtain ⟨b1, b2, b3⟩ := hb
    refine y_volume hV hp h12 hl (fun nb nbs pl => ?_)
    rw [vol_eq hl, show sumZ (fun t => cv nf d v m lam (dg (fun a => m a + 1) d t)) (wR (fun a => m a + 1) d) = sumZ (fun t => cv nf (d + 1 - 1) v m lam (dg (fun a => m a + 1) (d + 1 - 1) t)) (wR (fun a => m a + 1) (d + 1 - 1)) from rfl, ← b2]
    exact hK _ _ _ _ _ _ _ _ _ _ _ _ _ hkb
  · unfold wp_X7_volume
    exact nf_z (by omega) (fun z => absurd z (by omega)) (fun _ => ⟨fun z => absurd ((nI_leI (b := 12) (by omega) (by omega)).mp z) (by omega), fun _ => hK _ _ _ _ _ _ _ _ _ _ _ _ _ hk⟩)
end FIN

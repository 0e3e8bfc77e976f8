/-! ===== volume: over all cells, or over those of all aims but the last ===== -/
theorem sumZ_congr {f g : Nat → Int} : ∀ (n : Nat), (∀ i, i < n → f i = g i) → sumZ f n = sumZ g n
  | 0, _ => rfl
  | n + 1, h => by
    show sumZ f n + f n = sumZ g n + g n
    rw [sumZ_congr n (fun i hi => h i (by omega)), h n (by omega)]
theorem sumZ_add {f : Nat → Int} (a : Nat) : ∀ (n : Nat), sumZ f (a + n) = sumZ f a + sumZ (fun i => f (a + i)) n
  | 0 => by
    show sumZ f a = sumZ f a + 0
    omega
  | n + 1 => by
    show sumZ f (a + n) + f (a + n) = sumZ f a + (sumZ (fun i => f (a + i)) n + f (a + n))
    rw [sumZ_add a n]
    omega
theorem sumZ_block {g : Nat → Nat → Int} {r : Nat} : ∀ (n : Nat), sumZ (fun t => g (t / r) (t % r)) (n * r) = sumZ (fun u => sumZ (g u) r) n
  | 0 => by
    rw [Nat.zero_mul]
    rfl
  | n + 1 => by
    rw [Nat.succ_mul, sumZ_add]
    show _ = sumZ (fun u => sumZ (g u) r) n + sumZ (g n) r
    rw [sumZ_block n, sumZ_congr r (fun i hi => ?_)]
    have e1 : (n * r + i) / r = n := by
      rw [Nat.mul_comm, Nat.mul_add_div (by omega), Nat.div_eq_of_lt hi]
      rfl
    have e2 : (n * r + i) % r = i := by
      rw [Nat.mul_comm, Nat.mul_add_mod, Nat.mod_eq_of_lt hi]
    show g ((n * r + i) / r) ((n * r + i) % r) = g n i
    rw [e1, e2]
/-- nested sums over the digits -/
def nS (R : Nat → Nat) : Nat → ((Nat → Nat) → Int) → Int
  | 0, F => F (fun _ => 0)
  | d + 1, F => nS R d (fun p => sumZ (fun i => F (fun a => if a = d then i else p a)) (R d))
theorem sum_nS {R : Nat → Nat} : ∀ (d : Nat) (F : (Nat → Nat) → Int), sumZ (fun t => F (dg R d t)) (wR R d) = nS R d F
  | 0, F => by
    show (0 : Int) + F (fun _ => 0) = F (fun _ => 0)
    omega
  | d + 1, F => by
    show sumZ (fun t => F (fun a => if a = d then t % R d else dg R d (t / R d) a)) (wR R d * R d) = nS R d (fun p => sumZ (fun i => F (fun a => if a = d then i else p a)) (R d))
    rw [sumZ_block (g := fun u i => F (fun a => if a = d then i else dg R d u a)), ← sum_nS d (fun p => sumZ (fun i => F (fun a => if a = d then i else p a)) (R d))]
theorem nS_congr {R : Nat → Nat} : ∀ (d : Nat) {F G : (Nat → Nat) → Int}, (∀ p : Nat → Nat, (∀ a, a < d → p a < R a) → F p = G p) → nS R d F = nS R d G
  | 0, F, G, h => h _ (fun a ha => absurd ha (Nat.not_lt_zero _))
  | d + 1, F, G, h => by
    show nS R d _ = nS R d _
    refine nS_congr d (fun p hp => sumZ_congr _ (fun i hi => h _ (fun a ha => ?_)))
    split
    · rename_i e
      rw [e]
      exact hi
    · exact hp a (by omega)
theorem nS_rad {R R' : Nat → Nat} : ∀ (d : Nat) {F : (Nat → Nat) → Int}, (∀ a, a < d → R a = R' a) → nS R d F = nS R' d F
  | 0, _, _ => rfl
  | d + 1, F, h => by
    show nS R d _ = nS R' d _
    rw [h d (by omega)]
    exact nS_rad d (fun a ha => h a (by omega))
theorem nS_drop {m : Nat → Nat} : ∀ (d : Nat) {F G : (Nat → Nat) → Int}, (∀ p : Nat → Nat, (∀ a, a < d → p a < m a) → F p = G p) → (∀ p : Nat → Nat, (∃ a, a < d ∧ p a = m a) → F p = 0) → nS (fun a => m a + 1) d F = nS m d G
  | 0, F, G, h, _ => h _ (fun a ha => absurd ha (Nat.not_lt_zero _))
  | d + 1, F, G, h1, h0 => by
    show nS (fun a => m a + 1) d (fun p => sumZ (fun i => F (fun a => if a = d then i else p a)) (m d + 1)) = nS m d (fun p => sumZ (fun i => G (fun a => if a = d then i else p a)) (m d))
    refine nS_drop d (fun p hp => ?_) (fun p ⟨a, ha, e⟩ => ?_)
    · show sumZ (fun i => F (fun a => if a = d then i else p a)) (m d) + F (fun a => if a = d then m d else p a) = _
      rw [h0 (fun a => if a = d then m d else p a) ⟨d, by omega, if_pos rfl⟩, Int.add_zero]
      refine sumZ_congr _ (fun i hi => h1 _ (fun a ha => ?_))
      split
      · rename_i e
        rw [e]
        exact hi
      · exact hp a (by omega)
    · have z : ∀ n, sumZ (fun i => F (fun a => if a = d then i else p a)) n = 0 := by
        intro n
        induction n with
        | zero => rfl
        | succ n ih =>
          show sumZ _ n + F (fun a => if a = d then n else p a) = 0
          rw [ih, h0 (fun a => if a = d then n else p a) ⟨a, by omega, by rw [if_neg (by omega)]; exact e⟩]
          rfl
      exact z _
theorem tele {l : Nat → Int} {w : Int} {j : Nat} : ∀ (n : Nat), sumZ (fun i => if j ≤ i then w * (l (i + 1) - l i) else 0) n = if j ≤ n then w * (l n - l j) else 0
  | 0 => by
    show (0 : Int) = _
    split
    · rename_i h
      have : j = 0 := by omega
      subst this
      rw [Int.sub_self, Int.mul_zero]
    · rfl
  | n + 1 => by
    show sumZ _ n + (if j ≤ n then w * (l (n + 1) - l n) else 0) = _
    rw [tele n]
    rcases Nat.lt_or_ge n j with q | q
    · rw [if_neg (by omega), if_neg (by omega)]
      by_cases e : j ≤ n + 1
      · rw [if_pos e, show j = n + 1 by omega, Int.sub_self, Int.mul_zero]
        rfl
      · rw [if_neg e]
        rfl
    · rw [if_pos q, if_pos q, if_pos (by omega), ← Int.mul_add]
      congr 1
      omega
theorem wW_congr {lam : Nat → Nat → Int} {p p' : Nat → Nat} : ∀ (n : Nat), (∀ a, a < n → p a = p' a) → wW lam p n = wW lam p' n
  | 0, _ => rfl
  | n + 1, h => by
    show wW lam p n * _ = wW lam p' n * _
    rw [wW_congr n (fun a ha => h a (by omega)), h n (by omega)]
/-- what a cell adds, as the model has it -/
noncomputable def cm (nf na : Nat) (v : Nat → Nat → Int32) (lam : Nat → Nat → Int) (p : Nat → Nat) : Int := @ite Int (∃ k, k < nf ∧ ∀ a, a < na → (v k a).toInt ≤ lam a (p a)) (Classical.propDecidable _) (wW lam p na) 0
section VOL
variable {nf d : Nat} {v : Nat → Nat → Int32} {scores : Nat → Int64} {FP PS : Nat → Int32} {m : Nat → Nat} {lam : Nat → Nat → Int} {number numbers place : Nat → Int32}
theorem vol_eq (hl : LVs nf (d + 1) v m lam) : sumZ (fun s => cm nf (d + 1) v lam (dg (fun a => m a + 1 - 1) (d + 1) s)) (wR (fun a => m a + 1 - 1) (d + 1)) = sumZ (fun t => cv nf d v m lam (dg (fun a => m a + 1) d t)) (wR (fun a => m a + 1) d) := by
  rw [sum_nS (d + 1) (cm nf (d + 1) v lam), sum_nS d (cv nf d v m lam), nS_rad (R := fun a => m a + 1 - 1) (R' := m) (d + 1) (fun a _ => rfl)]
  rw [nS_drop d (m := m) (G := fun p => (lam d (m d) - lam d (qV nf d v m lam p)) * wW lam p d) (fun p hp => ?_) (fun p ⟨a, ha, e⟩ => ?_)]
  · show nS m d (fun p => sumZ (fun i => cm nf (d + 1) v lam (fun a => if a = d then i else p a)) (m d)) = _
    refine nS_congr d (fun p hp => ?_)
    obtain ⟨j1, j2, j3⟩ := qV_spec hl p
    have hld := hl d (by omega)
    generalize qV nf d v m lam p = j at j1 j2 j3
    dsimp only at j2 j3
    have e1 : sumZ (fun i => cm nf (d + 1) v lam (fun a => if a = d then i else p a)) (m d) = sumZ (fun i => if j ≤ i then wW lam p d * (lam d (i + 1) - lam d i) else 0) (m d) := by
      refine sumZ_congr _ (fun i hi => ?_)
      have ew : wW lam (fun a => if a = d then i else p a) (d + 1) = wW lam p d * (lam d (i + 1) - lam d i) := by
        show wW lam (fun a => if a = d then i else p a) d * (lam d ((if d = d then i else p d) + 1) - lam d (if d = d then i else p d)) = _
        rw [if_pos rfl, wW_congr d (p' := p) (fun a ha => if_neg (by omega))]
      unfold cm
      rw [ew]
      by_cases q : j ≤ i
      · rw [if_pos q, if_pos]
        rcases j3 with e | ⟨k, hk, c, e⟩
        · omega
        · refine ⟨k, hk, fun a ha => ?_⟩
          dsimp only
          by_cases z : a = d
          · subst z
            rw [if_pos rfl, e]
            exact LV_le hld q (by omega)
          · rw [if_neg z]
            exact c a (by omega)
      · rw [if_neg q, if_neg]
        rintro ⟨k, hk, c⟩
        dsimp only at c
        have a1 := j2 k hk (fun a ha => by have := c a (by omega); rw [if_neg (by omega)] at this; exact this)
        have a2 := c d (by omega)
        rw [if_pos rfl] at a2
        have := hld.2.2.1 i j (by omega) j1
        omega
    rw [e1, tele, if_pos j1, Int.mul_comm]
  · unfold cv
    rw [if_pos hp]
  · unfold cv
    rw [if_neg (fun z => by have := z a ha; omega)]
theorem y_volume (hV : FV (d + 1) nf v scores FP PS) (hn0 : 0 < nf) (hn12 : nf ≤ 12) (hl : LVs nf (d + 1) v m lam) {post : Int64 → (Nat → Int32) → (Nat → Int32) → (Nat → Int32) → Prop}
    (h : ∀ nb nbs pl : Nat → Int32, post (jZ (sumZ (fun s => cm nf (d + 1) v lam (dg (fun a => m a + 1 - 1) (d + 1) s)) (wR (fun a => m a + 1 - 1) (d + 1)))) nb nbs pl) : wp_X7_volume (nI (d + 1)) (nI nf) FP number numbers place PS post := by
  have hV' := hV
  obtain ⟨v1, v2, v3⟩ := hV'
  have hR : ∀ a, a < d + 1 → 1 ≤ (fun a => m a + 1 - 1) a ∧ (fun a => m a + 1 - 1) a ≤ 13 := fun a ha => by
    have := (hl a ha).2.1
    have := (hl a ha).1
    show 1 ≤ m a + 1 - 1 ∧ m a + 1 - 1 ≤ 13
    omega
  unfold wp_X7_volume
  refine ⟨fun z => absurd (nI_inj (b := 0) (by omega) (by omega) z) (by omega), fun _ => ⟨fun _ => ?_, fun z => absurd ((nI_leI (b := 12) (by omega) (by omega)).mpr hn12) z⟩⟩
  refine y_firstPlace hV hn0 hl (fun nb nbs pl hM hz => ?_)
  have hTp := wR_pos (R := fun a => m a + 1 - 1) (d + 1) (fun a ha => (hR a ha).1)
  refine Lq3_inv (fun sum more pl => (more = 1 ∧ ∃ s : Nat, s < wR (fun a => m a + 1 - 1) (d + 1) ∧ sum = jZ (sumZ (fun s => cm nf (d + 1) v lam (dg (fun a => m a + 1 - 1) (d + 1) s)) s) ∧ ∀ a, a < d + 1 → pl a = nI (dg (fun a => m a + 1 - 1) (d + 1) s a)) ∨ (more = 0 ∧ post sum nb nbs pl)) (fun _ more pl => if more = 0 then 0 else 1 + (wR (fun a => m a + 1 - 1) (d + 1) - hv (fun a => m a + 1 - 1) pl (d + 1))) ?_ _ _ _ (Or.inl ⟨rfl, 0, by omega, rfl, fun a ha => ?_⟩)
  · rintro sum more pl' (⟨rfl, s, hs, rfl, hpl⟩ | ⟨rfl, hp⟩) w hw
    · unfold b_X7_volume_30
      refine ⟨fun z => absurd z (by decide), fun _ => ?_⟩
      have hpm : ∀ a, a < d + 1 → dg (fun a => m a + 1 - 1) (d + 1) s a + 1 ≤ m a := fun a ha => by
        have : dg (fun a => m a + 1 - 1) (d + 1) s a < m a + 1 - 1 := dg_lt (d + 1) s a (fun a ha => (hR a ha).1) ha
        omega
      have ehv : hv (fun a => m a + 1 - 1) pl' (d + 1) = s := hv_dg (d + 1) s hR hs hpl
      rw [if_neg (by decide), ehv] at hw
      have ecm : ∀ x, x = cm nf (d + 1) v lam (dg (fun a => m a + 1 - 1) (d + 1) s) → sumZ (fun s => cm nf (d + 1) v lam (dg (fun a => m a + 1 - 1) (d + 1) s)) s + x = sumZ (fun s => cm nf (d + 1) v lam (dg (fun a => m a + 1 - 1) (d + 1) s)) (s + 1) := fun x e => by
        rw [e]
        rfl
      unfold cm at ecm
      generalize hp : dg (fun a => m a + 1 - 1) (d + 1) s = p at hpl hpm ecm
      -- the product and what follows
      have tail : ∀ r : Int32, fl r (∃ k, k < nf ∧ ∀ a, a < d + 1 → (v k a).toInt ≤ lam a (p a)) → Lq2 (b_X7_volume_128 (nI (d + 1)) nb pl' (fun (v5_128e : Int64) => jn1 (fun (k_j200 : Int64 → Prop) => ((r = 0 → k_j200 (0 : Int64)) ∧ (¬ r = 0 → k_j200 v5_128e))) (fun (s1_j200 : Int64) => wp_X7_nextPlace (nI (d + 1)) nbs pl' (1 : Int32) (fun (r_204 : Int32) (c_this_place_204 : Nat → Int32) => w (jZ (sumZ (fun s => cm nf (d + 1) v lam (dg (fun a => m a + 1 - 1) (d + 1) s)) s) + s1_j200) r_204 c_this_place_204)))) (1 : Int64) (0 : Int32) := fun r hr => by
        refine Lq2_inv (fun x aa => ∃ a : Nat, a ≤ d + 1 ∧ aa = nI a ∧ x = jZ (wW lam p a)) (fun _ a => d + 1 - a.toNatClampNeg) ?_ _ _ ⟨0, Nat.zero_le _, rfl, rfl⟩
        rintro x aa ⟨a, ha, rfl, rfl⟩ w2 hw2
        unfold b_X7_volume_128
        refine ⟨fun hle => ?_, fun hlt => ?_⟩
        · have : d + 1 ≤ a := (nI_leI (by omega) (by omega)).mp hle
          have ea : a = d + 1 := by omega
          subst ea
          have fin : ∀ x : Int, sumZ (fun s => cm nf (d + 1) v lam (dg (fun a => m a + 1 - 1) (d + 1) s)) s + x = sumZ (fun s => cm nf (d + 1) v lam (dg (fun a => m a + 1 - 1) (d + 1) s)) (s + 1) → wp_X7_nextPlace (nI (d + 1)) nbs pl' (1 : Int32) (fun (r_204 : Int32) (c_this_place_204 : Nat → Int32) => w (jZ (sumZ (fun s => cm nf (d + 1) v lam (dg (fun a => m a + 1 - 1) (d + 1) s)) s) + jZ x) r_204 c_this_place_204) := fun x ex => by
            rw [jZ_add, ex]
            refine y_nextPlace (d := d + 1) (m := m) (less := 1) (by omega) (by omega) (fun a ha => ⟨(hl a ha).1, (hl a ha).2.1⟩) (fun a ha => (hM a ha).1) (t := s) hs (fun a ha => by rw [hp]; exact hpl a ha) (fun z g' g1 => ?_) (fun z g' g1 => ?_)
            · refine hw _ _ _ (Or.inl ⟨rfl, s + 1, z, rfl, g1⟩) ?_
              have e3 : hv (fun a => m a + 1 - 1) g' (d + 1) = s + 1 := hv_dg (d + 1) (s + 1) hR z g1
              rw [if_neg (by decide), e3]
              have z' : s + 1 < wR (fun a => m a + 1 - 1) (d + 1) := z
              omega
            · refine hw _ _ _ (Or.inr ⟨rfl, ?_⟩) ?_
              · rw [z]
                exact h nb nbs g'
              · rw [if_pos rfl]
                omega
          unfold jn1
          refine ⟨fun z => fin 0 (ecm 0 ?_), fun z => fin _ (ecm _ ?_)⟩
          · rw [if_neg (fl_no hr z)]
          · rw [if_pos (fl_yes hr z).1]
        · have han := nI_leN (by omega) (by omega) hlt
          have hm := (hl a han).2.1
          have hpa := hpm a han
          have ha4 : vp_in (nI a) 4 := vp_in_nI (by omega) (by decide)
          have b0 := lam_bd hV han (hl a han) (show p a ≤ m a by omega)
          have b1 := lam_bd hV han (hl a han) hpa
          rw [cl_nI (by omega), hpl a han, ix13, nI_1, nI_1, cl_nI (by omega), cl_nI (by omega), Nat.add_assoc, (hM a han).2 _ hpa, (hM a han).2 _ (show p a ≤ m a by omega), iZ_sub, iZ_j (by omega) (by omega), jZ_mul]
          refine ⟨ha4, vp_in_nI (by omega) (by decide), ha4, vp_in_nI (by omega) (by decide), hw2 _ _ ⟨a + 1, by omega, rfl, rfl⟩ ?_⟩
          rw [cl_nI (by omega), cl_nI (by omega)]
          omega
      refine Lq2_inv (fun r ii => ∃ i : Nat, i ≤ nf ∧ ii = nI i ∧ fl r (∃ k, k < i ∧ ∀ a, a < d + 1 → (v k a).toInt ≤ lam a (p a))) (fun r i => nf - i.toNatClampNeg) ?_ _ _ ⟨0, Nat.zero_le _, rfl, fl_0 (fun ⟨k, hk, _⟩ => absurd hk (Nat.not_lt_zero _))⟩
      rintro r ii ⟨i, hi, rfl, hr⟩ w2 hw2
      unfold b_X7_volume_40
      refine ⟨fun hle => ?_, fun hlt => ⟨fun z => ?_, fun z => ?_⟩⟩
      · have : nf ≤ i := (nI_leI (by omega) (by omega)).mp hle
        have : i = nf := by omega
        subst this
        exact tail r hr
      · have hin := nI_leN (by omega) (by omega) hlt
        have no := fl_no hr z
        refine Lq2_inv (fun s aa => ∃ a : Nat, a ≤ d + 1 ∧ aa = nI a ∧ fl s (∀ b, b < a → (v i b).toInt ≤ lam b (p b))) (fun _ a => d + 1 - a.toNatClampNeg) ?_ _ _ ⟨0, Nat.zero_le _, rfl, fl_1 (fun b hb => absurd hb (Nat.not_lt_zero _))⟩
        rintro s2 aa ⟨a, ha, rfl, hs2⟩ w3 hw3
        unfold b_X7_volume_60
        refine ⟨fun hle => ?_, fun hlt2 => ?_⟩
        · have : d + 1 ≤ a := (nI_leI (by omega) (by omega)).mp hle
          have ea : a = d + 1 := by omega
          subst ea
          refine hw2 _ _ ⟨i + 1, by omega, nI_1 i, fl_iff hs2 ⟨fun c => ⟨i, by omega, c⟩, fun ⟨k, hk, c⟩ => ?_⟩⟩ ?_
          · rcases Nat.lt_or_ge k i with q | q
            · exact absurd ⟨k, q, c⟩ no
            · have : k = i := by omega
              subst this
              exact c
          · rw [nI_1, cl_nI (by omega), cl_nI (by omega)]
            omega
        · have han := nI_leN (by omega) (by omega) hlt2
          have dec' : d + 1 - (nI a + 1).toNatClampNeg < d + 1 - (nI a).toNatClampNeg := by
            rw [nI_1, cl_nI (by omega), cl_nI (by omega)]
            omega
          refine ⟨fun z2 => hw3 _ _ ⟨a + 1, by omega, nI_1 a, fl_0 (fun c => fl_no hs2 z2 (fun b hb => c b (by omega)))⟩ dec', fun z2 => ?_⟩
          obtain ⟨c, -⟩ := fl_yes hs2 z2
          have hm := (hl a han).2.1
          have hpa := hpm a han
          have b0 := lam_bd hV han (hl a han) (show p a ≤ m a by omega)
          refine x_at hV hin han ?_
          rw [cl_nI (by omega), hpl a han, ix13, cl_nI (by omega), (hM a han).2 _ (show p a ≤ m a by omega), Int32.lt_iff_toInt_lt, iZ_toInt (by omega) (by omega)]
          refine ⟨vp_in_nI (by omega) (by decide), vp_in_nI (by omega) (by decide), fun q => hw3 _ _ ⟨a + 1, by omega, nI_1 a, fl_0 (fun y => ?_)⟩ dec', fun q => hw3 _ _ ⟨a + 1, by omega, nI_1 a, fl_1 (fun b hb => ?_)⟩ dec'⟩
          · have := y a (by omega)
            omega
          · rcases Nat.lt_or_ge b a with q2 | q2
            · exact c b q2
            · have : b = a := by omega
              subst this
              omega
      · obtain ⟨⟨k, hk, c⟩, e1⟩ := fl_yes hr z
        rw [e1]
        exact tail 1 (fl_1 ⟨k, by omega, c⟩)
    · unfold b_X7_volume_30
      exact ⟨fun _ => hp, fun z => absurd rfl z⟩
  · rw [dg_zero]
    exact hz a (by omega)
end VOL

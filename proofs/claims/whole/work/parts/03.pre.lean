/-! ===== my own rows: a world of fixed cells, calls that write in place, loops and joins as predicates ===== -/
abbrev tyw (cI cJ cZ cG : ClassId) : List (ClassId × FieldType) := [(cI, .int), (cJ, .long), (cZ, .boolean), (cG, .array .int)]
/-- the references of an outer array: row i lies at ad i -/
def gro (n : Nat) (ad : Nat → Nat) : Nat → Option Nat := fun i => if i < n then some (ad i) else none
def updG {α : Type} (M : Nat → α) (i : Nat) (r : α) : Nat → α := fun k => if k = i then r else M k
theorem co_8 {P : Nat → Prop} (h0 : P 0) (h1 : P 1) (h2 : P 2) (h3 : P 3) (h4 : P 4) (h5 : P 5) (h6 : P 6) (h7 : P 7) {i : Nat} (hi : i < 8) : P i := by
  match i, hi with
  | 0, _ => exact h0
  | 1, _ => exact h1
  | 2, _ => exact h2
  | 3, _ => exact h3
  | 4, _ => exact h4
  | 5, _ => exact h5
  | 6, _ => exact h6
  | 7, _ => exact h7
  | n + 8, h => exact absurd h (by omega)
theorem vp_in_lt {i : Int32} {n : Nat} (h : vp_in i n) : i.toNatClampNeg < n := Nat.not_le.mp fun q => h (Or.inr q)
/-- ws, with the entries at the places is written anew -/
def jset : va_W → List Nat → va_W → va_W
  | ws, i :: is, e :: es => jset (ws.set i e) is es
  | ws, _, _ => ws
theorem jset_get : ∀ (is : List Nat) (ws w1 : va_W), is.length = w1.length → ∀ (k : Nat) (q : Nat × va_E), (jset ws is w1)[k]? = some q → (∃ j : Nat, is[j]? = some k ∧ w1[j]? = some q) ∨ (k ∉ is ∧ ws[k]? = some q)
  | [], ws, w1, _, k, q, h => by
    cases w1 with
    | nil => exact Or.inr ⟨List.not_mem_nil, h⟩
    | cons a b => exact Or.inr ⟨List.not_mem_nil, h⟩
  | i :: is, ws, [], hl, k, q, h => by simp at hl
  | i :: is, ws, e :: es, hl, k, q, h => by
    have hl' : is.length = es.length := by simpa using hl
    rcases jset_get is (ws.set i e) es hl' k q h with ⟨j, h1, h2⟩ | ⟨h1, h2⟩
    · exact Or.inl ⟨j + 1, by simpa using h1, by simpa using h2⟩
    · by_cases hk : i = k
      · subst hk
        by_cases hlt : i < ws.length
        · rw [List.getElem?_set_self hlt] at h2
          exact Or.inl ⟨0, by simp, by simpa using h2⟩
        · rw [List.getElem?_eq_none (by simpa using Nat.le_of_not_lt hlt)] at h2
          cases h2
      · rw [List.getElem?_set_ne hk] at h2
        exact Or.inr ⟨fun hm => by
          rcases List.mem_cons.mp hm with e1 | e1
          · exact hk e1.symm
          · exact h1 e1, h2⟩
theorem jc_key {ws wc : va_W} {is : List Nat} (hC : is.map (fun i => ws[i]?) = wc.map some) : is.length = wc.length ∧ ∀ (j : Nat) (q : Nat × va_E), wc[j]? = some q → ∃ i : Nat, is[j]? = some i ∧ ws[i]? = some q := by
  refine ⟨by simpa using congrArg List.length hC, fun j q hj => ?_⟩
  have h1 : (is.map (fun i => ws[i]?))[j]? = some (some q) := by rw [hC, List.getElem?_map, hj]; rfl
  rw [List.getElem?_map] at h1
  cases hi : is[j]? with
  | none => rw [hi] at h1; cases h1
  | some i => rw [hi] at h1; exact ⟨i, rfl, Option.some.inj h1⟩
theorem jset_adr {ws wc w1 : va_W} {is : List Nat} (hC : is.map (fun i => ws[i]?) = wc.map some) (ha : w1.map Prod.fst = wc.map Prod.fst) {k : Nat} {q : Nat × va_E} (h : (jset ws is w1)[k]? = some q) : ∃ q', ws[k]? = some q' ∧ q'.1 = q.1 := by
  obtain ⟨hlen, key⟩ := jc_key hC
  have hl : w1.length = wc.length := by simpa using congrArg List.length ha
  rcases jset_get is ws w1 (hlen.trans hl.symm) k q h with ⟨j, h1, h2⟩ | ⟨-, h2⟩
  · have h3 : (wc.map Prod.fst)[j]? = some q.1 := by rw [← ha, List.getElem?_map, h2]; rfl
    rw [List.getElem?_map] at h3
    cases hw : wc[j]? with
    | none => rw [hw] at h3; cases h3
    | some q' =>
      rw [hw] at h3
      obtain ⟨i, hi, hq⟩ := key j q' hw
      cases hi.symm.trans h1
      exact ⟨q', hq, Option.some.inj h3⟩
  · exact ⟨q, h2, rfl⟩
theorem jset_join {A0 : Nat → Prop} {D : va_G} {cl : List vw_C} {ws wc w1 : va_W} {H H1 : Heap} (hP : va_P D cl ws H) (hD : va_D A0 ws) (is : List Nat) (hC : is.map (fun i => ws[i]?) = wc.map some) (ha : w1.map Prod.fst = wc.map Prod.fst)
    (hk : ∀ q : Nat, q < H.size → ¬ va_A wc H.size q → H1[q]? = H[q]?) (hP1 : va_P D cl w1 H1) : va_P D cl (jset ws is w1) H1 ∧ va_D A0 (jset ws is w1) := by
  obtain ⟨hlen, key⟩ := jc_key hC
  have hl : w1.length = wc.length := by simpa using congrArg List.length ha
  refine ⟨fun k q h => ?_, fun i j x y hi hj hxy => ?_, fun k q h => ?_⟩
  · rcases jset_get is ws w1 (hlen.trans hl.symm) k q h with ⟨j, -, h2⟩ | ⟨h1, h2⟩
    · exact hP1 j q h2
    · refine (hP k q h2).kept (hk q.1 ((hP k q h2).lt) ?_)
      rintro (⟨j, e, hj⟩ | hge)
      · obtain ⟨i, hi, hq⟩ := key j (q.1, e) hj
        have : k = i := hD.1 k i q (q.1, e) h2 hq rfl
        subst this
        exact h1 (List.mem_of_getElem? hi)
      · exact absurd ((hP k q h2).lt) (Nat.not_lt.mpr hge)
  · obtain ⟨x', hx', ex⟩ := jset_adr hC ha hi
    obtain ⟨y', hy', ey⟩ := jset_adr hC ha hj
    exact hD.1 i j x' y' hx' hy' (by rw [ex, ey, hxy])
  · obtain ⟨q', hq', eq⟩ := jset_adr hC ha h
    rw [← eq]
    exact hD.2 k q' hq'
theorem jset_ro {A0 : Nat → Prop} {D : va_G} {cl : List vw_C} {ws wc : va_W} {H H1 : Heap} (hP : va_P D cl ws H) (hD : va_D A0 ws) (is : List Nat) (hC : is.map (fun i => ws[i]?) = wc.map some)
    (hk : ∀ q : Nat, q < H.size → ¬ va_A wc H.size q → H1[q]? = H[q]?) (hP1 : va_P D cl wc H1) : va_P D cl ws H1 := by
  obtain ⟨hlen, key⟩ := jc_key hC
  intro k q h
  by_cases hA : va_A wc H.size q.1
  · rcases hA with ⟨j, e, hj⟩ | hge
    · obtain ⟨i, hi, hq⟩ := key j (q.1, e) hj
      have : k = i := hD.1 k i q (q.1, e) h hq rfl
      subst this
      have hqe : q = (q.1, e) := Option.some.inj (h.symm.trans hq)
      rw [hqe]
      exact hP1 j _ hj
    · exact absurd ((hP k q h).lt) (Nat.not_lt.mpr hge)
  · exact (hP k q h).kept (hk q.1 ((hP k q h).lt) hA)
/-- a contract's start: the arguments, the world wc, the classes and array classes -/
def cp (D : va_G) (cI cJ cZ cG : ClassId) (av : List Value) (sz : Nat) (wc : va_W) : Array Value → State → Prop := va_Pc av (fun U => U.heap.size = sz ∧ va_P D vwCl wc U.heap ∧ va_K D vwCl (tyw cI cJ cZ cG) U ∧ va_D (fun _ => True) wc)
theorem cp_blind {D : va_G} {cI cJ cZ cG : ClassId} {av : List Value} {sz : Nat} {wc : va_W} : FrameBlind (cp D cI cJ cZ cG av sz wc) := fun a U g mk q => by
  obtain ⟨q0, q1, qP, qK, qD⟩ := q
  exact ⟨q0, q1, qP, va_K.moved (u := U) (U := U.calling g mk a) (Vm.Alike.refl U.vm) qK, qD⟩
abbrev MetI (l : Launch) (y : MethodName) (ws : List Cond) (rm : Room) (D : va_G) (cI cJ cZ cG : ClassId) (av : List Value) (sz : Nat) (wc : va_W) {S : Type} (post : Int32 → S → Prop) (w1 : S → va_W) : Prop :=
  Met l y ws rm (cp D cI cJ cZ cG av sz wc) (va_Qi post (fun u t => va_P D vwCl (w1 u) t.heap) (va_A wc sz)) 0 0 (va_A wc sz)
abbrev MetL (l : Launch) (y : MethodName) (ws : List Cond) (rm : Room) (D : va_G) (cI cJ cZ cG : ClassId) (av : List Value) (sz : Nat) (wc : va_W) {S : Type} (post : Int64 → S → Prop) (w1 : S → va_W) : Prop :=
  Met l y ws rm (cp D cI cJ cZ cG av sz wc) (va_Ql post (fun u t => va_P D vwCl (w1 u) t.heap) (va_A wc sz)) 0 0 (va_A wc sz)
abbrev MetV (l : Launch) (y : MethodName) (ws : List Cond) (rm : Room) (D : va_G) (cI cJ cZ cG : ClassId) (av : List Value) (sz : Nat) (wc : va_W) {S : Type} (post : S → Prop) (w1 : S → va_W) : Prop :=
  Met l y ws rm (cp D cI cJ cZ cG av sz wc) (va_Qv post (fun u t => va_P D vwCl (w1 u) t.heap) (va_A wc sz)) 0 0 (va_A wc sz)
theorem jc_fm {ws wc : va_W} {is : List Nat} (hC : is.map (fun i => ws[i]?) = wc.map some) : ∀ (j : Nat) (q : Nat × va_E), wc[j]? = some q → ∃ i : Nat, ws[i]? = some q := fun j q hj => by
  obtain ⟨i, -, h⟩ := (jc_key hC).2 j q hj
  exact ⟨i, h⟩
theorem va_P.cut {D : va_G} {cl : List vw_C} {ws wc : va_W} {H : Heap} {is : List Nat} (hP : va_P D cl ws H) (hC : is.map (fun i => ws[i]?) = wc.map some) : va_P D cl wc H := fun j q hj => by
  obtain ⟨i, h⟩ := jc_fm hC j q hj
  exact hP i q h
theorem cp_preS {s : State} {H : Heap} {D : va_G} {cI cJ cZ cG : ClassId} {As : List Value} {A : Nat → Prop} {ws wc : va_W} (hK : va_K D vwCl (tyw cI cJ cZ cG) s) (hP : va_P D vwCl ws H) (hD : va_D A ws) (is : List Nat) (hC : is.map (fun i => ws[i]?) = wc.map some) (hn : va_nd is = true) : PreS s H (cp D cI cJ cZ cG As H.size wc) As :=
  ⟨cp_blind, fun U hU hW => ⟨rfl, by rw [hU], by rw [hU]; exact hP.cut hC, va_K.moved hW.alike hK, (hD.sub is hn hC).weaken (fun _ _ _ _ => trivial)⟩⟩
theorem cp_preV {s : State} {H : Heap} {D : va_G} {cI cJ cZ cG : ClassId} {C : String} {b : Addr} {As : List Value} {A : Nat → Prop} {ws wc : va_W} (hK : va_K D vwCl (tyw cI cJ cZ cG) s) (hP : va_P D vwCl ws H) (hD : va_D A ws) (is : List Nat) (hC : is.map (fun i => ws[i]?) = wc.map some) (hn : va_nd is = true)
    {ci : Nat} {T : u_T} {N : Nat} {fs : List Value} (q0 : Nat) (hc : vwCl[ci]? = some (C, T, N)) (he : ws[q0]? = some (b, .inr (ci, fs))) : PreV s H C b (cp D cI cJ cZ cG (.ref b :: As) H.size wc) As :=
  ⟨cp_blind, va_recv hK hP hc he, fun U hU hW => ⟨rfl, by rw [hU], by rw [hU]; exact hP.cut hC, va_K.moved hW.alike hK, (hD.sub is hn hC).weaken (fun _ _ _ _ => trivial)⟩⟩
section JK
variable {p : Program} {l : Launch} {e : Env} {R : Room} {s : State} {m : MethodId} {args : Array Value} {below : List Frame} {meth : Method} {c : Code} {H : Heap} {locs : List Loc} {cells slots : Nat} {Q : State → Prop}
variable {cc : ByteArray} {pc : Nat} {ls : Array Slot} {rest st0 : List Value} {a : Array Value} {A : Nat → Prop} {H0 : Heap} {D : va_G} {ws wc : va_W} {b : Nat} {tys : List (ClassId × FieldType)} {cl : List vw_C}
theorem jk_i {S : Type} {post : Int32 → S → Prop} {w1 : S → va_W} (hr : va_Run p l e R s m args below meth c H locs cells slots 0 0 (F0 m pc ls st0) rest (va_Qi post (fun u t => va_P D vwCl (w1 u) t.heap) (va_A wc H.size) a) (va_A wc H.size)) (hP : va_P D vwCl ws H) (hD : va_D A ws) (hS : va_S A H0 H locs) (hA : ∀ q, H0.size ≤ q → A q) (is : List Nat) (hC : is.map (fun i => ws[i]?) = wc.map some) (ha : ∀ u, (w1 u).map Prod.fst = wc.map Prod.fst)
    (kk : ∀ (r : Int32) (u : S) (H1 : Heap) (locs1 : List Loc), post r u → va_P D vwCl (jset ws is (w1 u)) H1 → va_D A (jset ws is (w1 u)) → va_S A H0 H1 locs1 → W p l e R s m args below meth c H1 locs1 cells slots Q (F0 m (pc + 3) ls (.int r :: rest))) : W p l e R s m args below meth c H locs cells slots Q (F0 m pc ls st0) := by
  have hF := va_free (wc := wc) hD hS hA is hC
  refine va_calli hr hS (fun q _ h => hF q h) hF (fun r u t H1 locs1 ht hvm hw hB hz1 hk1 hS1 => ?_)
  have hB' : va_P D vwCl (w1 u) t.heap := hB
  rw [ht] at hB'
  obtain ⟨h1, h2⟩ := jset_join hP hD is hC (ha u) hk1 hB'
  exact kk r u H1 locs1 hw h1 h2 hS1
theorem jk_l {S : Type} {post : Int64 → S → Prop} {w1 : S → va_W} (hr : va_Run p l e R s m args below meth c H locs cells slots 0 0 (F0 m pc ls st0) rest (va_Ql post (fun u t => va_P D vwCl (w1 u) t.heap) (va_A wc H.size) a) (va_A wc H.size)) (hP : va_P D vwCl ws H) (hD : va_D A ws) (hS : va_S A H0 H locs) (hA : ∀ q, H0.size ≤ q → A q) (is : List Nat) (hC : is.map (fun i => ws[i]?) = wc.map some) (ha : ∀ u, (w1 u).map Prod.fst = wc.map Prod.fst)
    (kk : ∀ (r : Int64) (u : S) (H1 : Heap) (locs1 : List Loc), post r u → va_P D vwCl (jset ws is (w1 u)) H1 → va_D A (jset ws is (w1 u)) → va_S A H0 H1 locs1 → W p l e R s m args below meth c H1 locs1 cells slots Q (F0 m (pc + 3) ls (.long r :: rest))) : W p l e R s m args below meth c H locs cells slots Q (F0 m pc ls st0) := by
  have hF := va_free (wc := wc) hD hS hA is hC
  refine va_calll hr hS (fun q _ h => hF q h) hF (fun r u t H1 locs1 ht hvm hw hB hz1 hk1 hS1 => ?_)
  have hB' : va_P D vwCl (w1 u) t.heap := hB
  rw [ht] at hB'
  obtain ⟨h1, h2⟩ := jset_join hP hD is hC (ha u) hk1 hB'
  exact kk r u H1 locs1 hw h1 h2 hS1
theorem jk_v {S : Type} {post : S → Prop} {w1 : S → va_W} (hr : va_Run p l e R s m args below meth c H locs cells slots 0 0 (F0 m pc ls st0) rest (va_Qv post (fun u t => va_P D vwCl (w1 u) t.heap) (va_A wc H.size) a) (va_A wc H.size)) (hP : va_P D vwCl ws H) (hD : va_D A ws) (hS : va_S A H0 H locs) (hA : ∀ q, H0.size ≤ q → A q) (is : List Nat) (hC : is.map (fun i => ws[i]?) = wc.map some) (ha : ∀ u, (w1 u).map Prod.fst = wc.map Prod.fst)
    (kk : ∀ (u : S) (H1 : Heap) (locs1 : List Loc), post u → va_P D vwCl (jset ws is (w1 u)) H1 → va_D A (jset ws is (w1 u)) → va_S A H0 H1 locs1 → W p l e R s m args below meth c H1 locs1 cells slots Q (F0 m (pc + 3) ls rest)) : W p l e R s m args below meth c H locs cells slots Q (F0 m pc ls st0) := by
  have hF := va_free (wc := wc) hD hS hA is hC
  refine va_callv hr hS (fun q _ h => hF q h) hF (fun u t H1 locs1 ht hvm hw hB hz1 hk1 hS1 => ?_)
  have hB' : va_P D vwCl (w1 u) t.heap := hB
  rw [ht] at hB'
  obtain ⟨h1, h2⟩ := jset_join hP hD is hC (ha u) hk1 hB'
  exact kk u H1 locs1 hw h1 h2 hS1
theorem jr_i {post : Int32 → Unit → Prop} (hr : va_Run p l e R s m args below meth c H locs cells slots 0 0 (F0 m pc ls st0) rest (va_Qi post (fun _ t => va_P D vwCl wc t.heap) (va_A wc H.size) a) (va_A wc H.size)) (hP : va_P D vwCl ws H) (hD : va_D A ws) (hS : va_S A H0 H locs) (hA : ∀ q, H0.size ≤ q → A q) (is : List Nat) (hC : is.map (fun i => ws[i]?) = wc.map some)
    (kk : ∀ (r : Int32) (H1 : Heap) (locs1 : List Loc), post r () → va_P D vwCl ws H1 → va_S A H0 H1 locs1 → W p l e R s m args below meth c H1 locs1 cells slots Q (F0 m (pc + 3) ls (.int r :: rest))) : W p l e R s m args below meth c H locs cells slots Q (F0 m pc ls st0) := by
  have hF := va_free (wc := wc) hD hS hA is hC
  refine va_calli hr hS (fun q _ h => hF q h) hF (fun r u t H1 locs1 ht hvm hw hB hz1 hk1 hS1 => ?_)
  have hB' : va_P D vwCl wc t.heap := hB
  rw [ht] at hB'
  exact kk r H1 locs1 hw (jset_ro hP hD is hC hk1 hB') hS1
theorem jr_l {post : Int64 → Unit → Prop} (hr : va_Run p l e R s m args below meth c H locs cells slots 0 0 (F0 m pc ls st0) rest (va_Ql post (fun _ t => va_P D vwCl wc t.heap) (va_A wc H.size) a) (va_A wc H.size)) (hP : va_P D vwCl ws H) (hD : va_D A ws) (hS : va_S A H0 H locs) (hA : ∀ q, H0.size ≤ q → A q) (is : List Nat) (hC : is.map (fun i => ws[i]?) = wc.map some)
    (kk : ∀ (r : Int64) (H1 : Heap) (locs1 : List Loc), post r () → va_P D vwCl ws H1 → va_S A H0 H1 locs1 → W p l e R s m args below meth c H1 locs1 cells slots Q (F0 m (pc + 3) ls (.long r :: rest))) : W p l e R s m args below meth c H locs cells slots Q (F0 m pc ls st0) := by
  have hF := va_free (wc := wc) hD hS hA is hC
  refine va_calll hr hS (fun q _ h => hF q h) hF (fun r u t H1 locs1 ht hvm hw hB hz1 hk1 hS1 => ?_)
  have hB' : va_P D vwCl wc t.heap := hB
  rw [ht] at hB'
  exact kk r H1 locs1 hw (jset_ro hP hD is hC hk1 hB') hS1
/-- a row of an array of int arrays -/
theorem va_aldG (hexec : p.tables.exec = Jvm.exec) (hb : c.code = cc) (hK : va_K D cl tys s) (hP : va_P D cl ws H) (q0 t0 : Nat) {cA : ClassId} {n : Nat} {ad : Nat → Nat} (ha : ws[q0]? = some (b, .inl (cA, n, .inr (.inr (.inr (.inr (gro n ad))))))) (ht : tys[t0]? = some (cA, .array .int)) {i : Int32} (hin : vp_in i n) (hdg : decode cc pc = .ok (.aaload, 1))
    (kk : W p l e R s m args below meth c H locs cells slots Q (F0 m (pc + 1) ls (.ref (ad i.toNatClampNeg) :: rest))) : W p l e R s m args below meth c H locs cells slots Q (F0 m pc ls (.int i :: .ref b :: rest)) := by
  have hlt : i.toNatClampNeg < n := vp_in_lt hin
  have hv : va_rf (gro n ad i.toNatClampNeg) = .ref (ad i.toNatClampNeg) := by
    unfold gro
    rw [if_pos hlt]
    rfl
  exact W.aald (v := .ref (ad i.toNatClampNeg)) (ty := .array .int) hexec hb (hP q0 _ ha) ((hK.2 t0 _ ht).1 n (fun j => va_rf (gro n ad j))) rfl (fun q => by cases q) (by show ¬ (i < 0 ∨ (arrV _ _ _).slots.size ≤ _); rw [arrV_size]; exact hin) (by show (arrV _ _ _).slots[_]? = _; rw [arrV_read _ _ hlt, hv]) rfl rfl hdg kk
end JK
def bz (v : Int32) : Prop := narrow .boolean (.int v) = .int v
theorem bz_0 : bz 0 := rfl
theorem bz_1 : bz 1 := rfl
/-- the world ws in the heap H, its cells apart and in A, nothing else changed since H0 -/
def HW (D : va_G) (A : Nat → Prop) (H0 : Heap) (ws : va_W) (H : Heap) (locs : List Loc) : Prop := va_P D vwCl ws H ∧ va_D A ws ∧ va_S A H0 H locs
/-- what a walk may use: the machine, the code, the tables -/
def WK (p : Program) (s : State) (m : MethodId) (c : Code) (args : Array Value) (cc : ByteArray) (maxL : Nat) (own : String) (ws : List Cond) (D : va_G) (cI cJ cZ cG : ClassId) (A : Nat → Prop) : Prop :=
  p.tables.exec = Jvm.exec ∧ c.code = cc ∧ c.maxLocals = maxL ∧ s.vm.findClass own = some m.cls ∧ (∀ w ∈ ws, w.before args s = true) ∧ va_K D vwCl (tyw cI cJ cZ cG) s ∧ ∀ q, s.heap.size ≤ q → A q
theorem met_i {l : Launch} {y : MethodName} {ws ws' : List Cond} {rm : Room} {D : va_G} {cI cJ cZ cG : ClassId} {av : List Value} {sz : Nat} {wc : va_W} {S : Type} {post : Int32 → S → Prop} {w1 : S → va_W} {cc : ByteArray} {maxL : Nat} {ty : FieldType} (hty : ty = .int ∨ ty = .boolean)
    (hy : plainName y.cls = true) (hw : ws = Cond.code y cc maxL (some ty) :: ws') (hln : (lg_sl av).length ≤ maxL)
    (body : ∀ (p : Program) (e : Env) (s : State) (m : MethodId) (args : Array Value) (below : List Frame) (meth : Method) (c : Code) (A : Nat → Prop) (Q : State → Prop) (H : Heap) (locs : List Loc) (ls : Array Slot), WK p s m c args cc maxL y.cls ws D cI cJ cZ cG A → HW D A s.heap wc H locs → lv_has ls maxL (lv_args 0 av) →
      (∀ (r : Int32) (u : S) (H : Heap) (locs : List Loc) (pc : Nat) (ls : Array Slot), decode cc pc = .ok (.ireturn, 1) → narrow ty (.int r) = .int r → post r u → HW D A s.heap (w1 u) H locs → W p l e rm s m args below meth c H locs 0 0 Q (F0 m pc ls [.int r])) →
      W p l e rm s m args below meth c H locs 0 0 Q (F0 m 0 ls [])) : MetI l y ws rm D cI cJ cZ cG av sz wc post w1 := by
  refine Met.ofW (cc := cc) (maxL := maxL) (ret := some ty) hy hw ?_
  intro p e s m args below meth c s₁ B hml hv
  obtain ⟨rfl, hsz, hP, hK, hD0⟩ := hv
  subst hsz
  have hlocks := B.notSynchronized
  have hD := hD0.self (sz := s.heap.size)
  have hl := lv_entry av (n := maxL) hln
  rw [lg_entry_eq]
  refine body p e s m av.toArray below meth c (va_A wc s.heap.size) _ _ _ _ ⟨B.exec, B.bytes, hml, findClass_of_methodNamed B.named, atoms_spec (ws := ws) B.pre, hK, fun q h => Or.inr h⟩ ⟨hP, hD, va_S.rf⟩ hl ?_
  intro r u H locs pc ls hdg hnr hpost hG
  exact W.zret (ty := ty) (v := r) B.exec B.bytes B.returns hnr (fun t ht hW => ⟨⟨r, u, rfl, hpost, by show va_P D vwCl (w1 u) t.heap; rw [ht]; exact hG.1⟩, hG.2.2.F ht⟩) hG.2.2.2.2 hdg
theorem met_l {l : Launch} {y : MethodName} {ws ws' : List Cond} {rm : Room} {D : va_G} {cI cJ cZ cG : ClassId} {av : List Value} {sz : Nat} {wc : va_W} {S : Type} {post : Int64 → S → Prop} {w1 : S → va_W} {cc : ByteArray} {maxL : Nat}
    (hy : plainName y.cls = true) (hw : ws = Cond.code y cc maxL (some .long) :: ws') (hln : (lg_sl av).length ≤ maxL)
    (body : ∀ (p : Program) (e : Env) (s : State) (m : MethodId) (args : Array Value) (below : List Frame) (meth : Method) (c : Code) (A : Nat → Prop) (Q : State → Prop) (H : Heap) (locs : List Loc) (ls : Array Slot), WK p s m c args cc maxL y.cls ws D cI cJ cZ cG A → HW D A s.heap wc H locs → lv_has ls maxL (lv_args 0 av) →
      (∀ (r : Int64) (u : S) (H : Heap) (locs : List Loc) (pc : Nat) (ls : Array Slot), decode cc pc = .ok (.lreturn, 1) → post r u → HW D A s.heap (w1 u) H locs → W p l e rm s m args below meth c H locs 0 0 Q (F0 m pc ls [.long r])) →
      W p l e rm s m args below meth c H locs 0 0 Q (F0 m 0 ls [])) : MetL l y ws rm D cI cJ cZ cG av sz wc post w1 := by
  refine Met.ofW (cc := cc) (maxL := maxL) (ret := some .long) hy hw ?_
  intro p e s m args below meth c s₁ B hml hv
  obtain ⟨rfl, hsz, hP, hK, hD0⟩ := hv
  subst hsz
  have hlocks := B.notSynchronized
  have hD := hD0.self (sz := s.heap.size)
  have hl := lv_entry av (n := maxL) hln
  rw [lg_entry_eq]
  refine body p e s m av.toArray below meth c (va_A wc s.heap.size) _ _ _ _ ⟨B.exec, B.bytes, hml, findClass_of_methodNamed B.named, atoms_spec (ws := ws) B.pre, hK, fun q h => Or.inr h⟩ ⟨hP, hD, va_S.rf⟩ hl ?_
  intro r u H locs pc ls hdg hpost hG
  exact W.lret (v := r) B.exec B.bytes B.returns (fun t ht hW => ⟨⟨r, u, rfl, hpost, by show va_P D vwCl (w1 u) t.heap; rw [ht]; exact hG.1⟩, hG.2.2.F ht⟩) hG.2.2.2.2 hdg
theorem met_v {l : Launch} {y : MethodName} {ws ws' : List Cond} {rm : Room} {D : va_G} {cI cJ cZ cG : ClassId} {av : List Value} {sz : Nat} {wc : va_W} {S : Type} {post : S → Prop} {w1 : S → va_W} {cc : ByteArray} {maxL : Nat}
    (hy : plainName y.cls = true) (hw : ws = Cond.code y cc maxL none :: ws') (hln : (lg_sl av).length ≤ maxL)
    (body : ∀ (p : Program) (e : Env) (s : State) (m : MethodId) (args : Array Value) (below : List Frame) (meth : Method) (c : Code) (A : Nat → Prop) (Q : State → Prop) (H : Heap) (locs : List Loc) (ls : Array Slot), WK p s m c args cc maxL y.cls ws D cI cJ cZ cG A → HW D A s.heap wc H locs → lv_has ls maxL (lv_args 0 av) →
      (∀ (u : S) (H : Heap) (locs : List Loc) (pc : Nat) (ls : Array Slot), decode cc pc = .ok (.return_, 1) → post u → HW D A s.heap (w1 u) H locs → W p l e rm s m args below meth c H locs 0 0 Q (F0 m pc ls [])) →
      W p l e rm s m args below meth c H locs 0 0 Q (F0 m 0 ls [])) : MetV l y ws rm D cI cJ cZ cG av sz wc post w1 := by
  refine Met.ofW (cc := cc) (maxL := maxL) (ret := none) hy hw ?_
  intro p e s m args below meth c s₁ B hml hv
  obtain ⟨rfl, hsz, hP, hK, hD0⟩ := hv
  subst hsz
  have hlocks := B.notSynchronized
  have hD := hD0.self (sz := s.heap.size)
  have hl := lv_entry av (n := maxL) hln
  rw [lg_entry_eq]
  refine body p e s m av.toArray below meth c (va_A wc s.heap.size) _ _ _ _ ⟨B.exec, B.bytes, hml, findClass_of_methodNamed B.named, atoms_spec (ws := ws) B.pre, hK, fun q h => Or.inr h⟩ ⟨hP, hD, va_S.rf⟩ hl ?_
  intro u H locs pc ls hdg hpost hG
  exact W.vret B.exec B.bytes B.returns (fun t ht hW => ⟨⟨u, rfl, hpost, by show va_P D vwCl (w1 u) t.heap; rw [ht]; exact hG.1⟩, hG.2.2.F ht⟩) hG.2.2.2.2 hdg
section GW
variable {p : Program} {l : Launch} {e : Env} {R : Room} {s : State} {m : MethodId} {args : Array Value} {below : List Frame} {meth : Method} {c : Code} {H : Heap} {locs : List Loc} {cells slots : Nat} {Q : State → Prop}
variable {cc : ByteArray} {pc maxL : Nat} {ls : Array Slot} {rest st0 : List Value} {A : Nat → Prop} {D : va_G} {cI cJ cZ cG : ClassId} {own : String} {Ts : List Cond} {ws ws' wc : va_W} {a b : Nat}
theorem g_get (K : WK p s m c args cc maxL own Ts D cI cJ cZ cG A) (hG : HW D A s.heap ws H locs) {C ref : String} {T : u_T} {N ci index : Nat} (hin : ∀ w ∈ u_ws C T N, w ∈ Ts) (q0 : Nat) {fs : List Value} (he : ws[q0]? = some (a, .inr (ci, fs))) (hc : vwCl[ci]? = some (C, T, N)) (k : Nat) (hk : k < N) (hlink : (Cond.fieldLink own index ref (T k).2.1 (T k).2.2.1).before args s = true) (href : (T k).1 = ref) {v : Value} (hv : fs[k]? = some v) (hdg : decode cc pc = .ok (.getfield index, 3))
    (kk : W p l e R s m args below meth c H locs cells slots Q (F0 m (pc + 3) ls (v :: rest))) : W p l e R s m args below meth c H locs cells slots Q (F0 m pc ls (.ref a :: rest)) :=
  va_get K.1 K.2.1 K.2.2.2.2.1 hin K.2.2.2.1 K.2.2.2.2.2.1 hG.1 q0 he hc k hk hlink (fun _ h9 => href ▸ h9) hv hdg kk
theorem g_put (K : WK p s m c args cc maxL own Ts D cI cJ cZ cG A) (hG : HW D A s.heap ws H locs) {C ref : String} {T : u_T} {N ci index : Nat} (hin : ∀ w ∈ u_ws C T N, w ∈ Ts) (ty0 : Nat → FieldType) (hty : ∀ k, k < N → parseFieldDescriptor (T k).2.2.1 = some (ty0 k)) (hnm : ∀ a, a < N → ∀ b, b < N → a ≠ b → (T a).2.1 ≠ (T b).2.1) (q0 : Nat) {fs : List Value} (he : ws[q0]? = some (a, .inr (ci, fs))) (hc : vwCl[ci]? = some (C, T, N)) (k : Nat) (hk : k < N) (hlink : (Cond.fieldLink own index ref (T k).2.1 (T k).2.2.1).before args s = true) (href : (T k).1 = ref) (hfin : (T k).2.2.2 = false) {v : Value} (hn : narrow (ty0 k) v = v) (hfit : fits (ty0 k) v = true) (hl : k < fs.length)
    (hw : ws.set q0 (a, .inr (ci, fs.set k v)) = ws') (hdg : decode cc pc = .ok (.putfield index, 3)) (kk : ∀ (H1 : Heap) (locs1 : List Loc), HW D A s.heap ws' H1 locs1 → W p l e R s m args below meth c H1 locs1 cells slots Q (F0 m (pc + 3) ls rest)) : W p l e R s m args below meth c H locs cells slots Q (F0 m pc ls (v :: .ref a :: rest)) :=
  va_put (ty := ty0 k) K.1 K.2.1 K.2.2.2.2.1 hin ty0 hty hnm K.2.2.2.1 K.2.2.2.2.2.1 hG.1 hG.2.1 hG.2.2 q0 he hc k hk hlink (fun _ h9 => href ▸ h9) hfin (hty k hk) hn hfit hl hdg (fun H1 l1 h1 h2 h3 => kk H1 l1 (hw ▸ ⟨h1, h2, h3⟩))
theorem g_iald (K : WK p s m c args cc maxL own Ts D cI cJ cZ cG A) (hG : HW D A s.heap ws H locs) (q0 : Nat) {n : Nat} {f : Nat → Int32} (ha : ws[q0]? = some (a, .inl (cI, n, .inl f))) {i : Int32} (hin : vp_in i n) (hdg : decode cc pc = .ok (.iaload, 1))
    (kk : W p l e R s m args below meth c H locs cells slots Q (F0 m (pc + 1) ls (.int (f i.toNatClampNeg) :: rest))) : W p l e R s m args below meth c H locs cells slots Q (F0 m pc ls (.int i :: .ref a :: rest)) := va_iald K.1 K.2.1 K.2.2.2.2.2.1 hG.1 q0 0 ha rfl hin hdg kk
theorem g_lald (K : WK p s m c args cc maxL own Ts D cI cJ cZ cG A) (hG : HW D A s.heap ws H locs) (q0 : Nat) {n : Nat} {f : Nat → Int64} (ha : ws[q0]? = some (a, .inl (cJ, n, .inr (.inl f)))) {i : Int32} (hin : vp_in i n) (hdg : decode cc pc = .ok (.laload, 1))
    (kk : W p l e R s m args below meth c H locs cells slots Q (F0 m (pc + 1) ls (.long (f i.toNatClampNeg) :: rest))) : W p l e R s m args below meth c H locs cells slots Q (F0 m pc ls (.int i :: .ref a :: rest)) := va_lald K.1 K.2.1 K.2.2.2.2.2.1 hG.1 q0 1 ha rfl hin hdg kk
theorem g_zald (K : WK p s m c args cc maxL own Ts D cI cJ cZ cG A) (hG : HW D A s.heap ws H locs) (q0 : Nat) {n : Nat} {f : Nat → Int32} (ha : ws[q0]? = some (a, .inl (cZ, n, .inl f))) {i : Int32} (hin : vp_in i n) (hdg : decode cc pc = .ok (.baload, 1))
    (kk : W p l e R s m args below meth c H locs cells slots Q (F0 m (pc + 1) ls (.int (f i.toNatClampNeg) :: rest))) : W p l e R s m args below meth c H locs cells slots Q (F0 m pc ls (.int i :: .ref a :: rest)) := va_zald K.1 K.2.1 K.2.2.2.2.2.1 hG.1 q0 2 ha rfl hin hdg kk
theorem g_aald (K : WK p s m c args cc maxL own Ts D cI cJ cZ cG A) (hG : HW D A s.heap ws H locs) (q0 : Nat) {n : Nat} {ad : Nat → Nat} (ha : ws[q0]? = some (a, .inl (cG, n, .inr (.inr (.inr (.inr (gro n ad))))))) {i : Int32} (hin : vp_in i n) (hdg : decode cc pc = .ok (.aaload, 1))
    (kk : W p l e R s m args below meth c H locs cells slots Q (F0 m (pc + 1) ls (.ref (ad i.toNatClampNeg) :: rest))) : W p l e R s m args below meth c H locs cells slots Q (F0 m pc ls (.int i :: .ref a :: rest)) := va_aldG K.1 K.2.1 K.2.2.2.2.2.1 hG.1 q0 3 ha rfl hin hdg kk
theorem g_alen (K : WK p s m c args cc maxL own Ts D cI cJ cZ cG A) (hG : HW D A s.heap ws H locs) (q0 t0 : Nat) {cA : ClassId} {x : vp_A} (ha : ws[q0]? = some (a, .inl (cA, x))) {ty : FieldType} (ht : (tyw cI cJ cZ cG)[t0]? = some (cA, ty)) {v : Int32} (hv : Int32.ofNat x.1 = v) (hdg : decode cc pc = .ok (.arraylength, 1))
    (kk : W p l e R s m args below meth c H locs cells slots Q (F0 m (pc + 1) ls (.int v :: rest))) : W p l e R s m args below meth c H locs cells slots Q (F0 m pc ls (.ref a :: rest)) := va_alen K.1 K.2.1 K.2.2.2.2.2.1 hG.1 q0 t0 ha ht hv hdg kk
theorem g_iast (K : WK p s m c args cc maxL own Ts D cI cJ cZ cG A) (hG : HW D A s.heap ws H locs) (q0 : Nat) {n : Nat} {f : Nat → Int32} (ha : ws[q0]? = some (a, .inl (cI, n, .inl f))) {i x : Int32} (hin : vp_in i n) (hw : ws.set q0 (a, .inl (cI, n, .inl (upd f i.toNatClampNeg x))) = ws') (hdg : decode cc pc = .ok (.iastore, 1))
    (kk : ∀ (H1 : Heap) (locs1 : List Loc), HW D A s.heap ws' H1 locs1 → W p l e R s m args below meth c H1 locs1 cells slots Q (F0 m (pc + 1) ls rest)) : W p l e R s m args below meth c H locs cells slots Q (F0 m pc ls (.int x :: .int i :: .ref a :: rest)) :=
  va_iast K.1 K.2.1 K.2.2.2.2.2.1 hG.1 hG.2.1 hG.2.2 q0 0 ha rfl hin hdg (fun H1 l1 h1 h2 h3 => kk H1 l1 (hw ▸ ⟨h1, h2, h3⟩))
theorem g_zast (K : WK p s m c args cc maxL own Ts D cI cJ cZ cG A) (hG : HW D A s.heap ws H locs) (q0 : Nat) {n : Nat} {f : Nat → Int32} (ha : ws[q0]? = some (a, .inl (cZ, n, .inl f))) {i x : Int32} (hin : vp_in i n) (hw : ws.set q0 (a, .inl (cZ, n, .inl (upd f i.toNatClampNeg (vp_nar .boolean x)))) = ws') (hdg : decode cc pc = .ok (.bastore, 1))
    (kk : ∀ (H1 : Heap) (locs1 : List Loc), HW D A s.heap ws' H1 locs1 → W p l e R s m args below meth c H1 locs1 cells slots Q (F0 m (pc + 1) ls rest)) : W p l e R s m args below meth c H locs cells slots Q (F0 m pc ls (.int x :: .int i :: .ref a :: rest)) :=
  va_zast K.1 K.2.1 K.2.2.2.2.2.1 hG.1 hG.2.1 hG.2.2 q0 2 ha rfl hin hdg (fun H1 l1 h1 h2 h3 => kk H1 l1 (hw ▸ ⟨h1, h2, h3⟩))
theorem g_last (K : WK p s m c args cc maxL own Ts D cI cJ cZ cG A) (hG : HW D A s.heap ws H locs) (q0 : Nat) {n : Nat} {f : Nat → Int64} (ha : ws[q0]? = some (a, .inl (cJ, n, .inr (.inl f)))) {i : Int32} {x : Int64} (hin : vp_in i n) (hw : ws.set q0 (a, .inl (cJ, n, .inr (.inl (vp_updL f i.toNatClampNeg x)))) = ws') (hdg : decode cc pc = .ok (.lastore, 1))
    (kk : ∀ (H1 : Heap) (locs1 : List Loc), HW D A s.heap ws' H1 locs1 → W p l e R s m args below meth c H1 locs1 cells slots Q (F0 m (pc + 1) ls rest)) : W p l e R s m args below meth c H locs cells slots Q (F0 m pc ls (.long x :: .int i :: .ref a :: rest)) :=
  va_last K.1 K.2.1 K.2.2.2.2.2.1 hG.1 hG.2.1 hG.2.2 q0 1 ha rfl hin hdg (fun H1 l1 h1 h2 h3 => kk H1 l1 (hw ▸ ⟨h1, h2, h3⟩))
theorem g_copyi (K : WK p s m c args cc maxL own Ts D cI cJ cZ cG A) (hG : HW D A s.heap ws H locs) {nL : Nat} {lv : List (Nat × Value)} (hlv : lv_has ls maxL lv) {index : Nat} (hlink : (Cond.methodLink own index arraycopyName).before args s = true) (hnat : (Cond.native arraycopyName).before args s = true) (hstat : (Cond.static arraycopyName).before args s = true) (hini : (Cond.initialized "java/lang/System").before args s = true)
    (q0 q1 : Nat) {a0 : Nat} {n0 n1 : Nat} {f g : Nat → Int32} (ha0 : ws[q0]? = some (a0, .inl (cI, n0, .inl f))) (ha1 : ws[q1]? = some (a, .inl (cI, n1, .inl g))) {sp dp n : Int32} (h1 : ¬ sp < 0) (h2 : ¬ dp < 0) (h3 : ¬ n < 0) (h4 : sp.toNatClampNeg + n.toNatClampNeg ≤ n0) (h5 : dp.toNatClampNeg + n.toNatClampNeg ≤ n1)
    (hframes : 1 ≤ R.frames) (hlocals : (rest.map fun v => v.category).sum + (nativeFrameWords "java/lang/System" "arraycopy" 5 + 11) ≤ R.locals) (hw : ws.set q1 (a, .inl (cI, n1, .inl (va_cpy f g sp.toNatClampNeg dp.toNatClampNeg n.toNatClampNeg))) = ws') (hdg : decode cc pc = .ok (.invokestatic index, 3))
    (kk : ∀ (H1 : Heap) (locs1 : List Loc), HW D A s.heap ws' H1 locs1 → W p l e R s m args below meth c H1 locs1 cells slots Q (F0 m (pc + 3) ls rest)) : W p l e R s m args below meth c H locs cells slots Q (F0 m pc ls (.int n :: .int dp :: .ref a :: .int sp :: .ref a0 :: rest)) :=
  va_copyi K.1 K.2.1 (K.2.2.1.trans hlv.1.symm) K.2.2.2.1 hlink hnat hstat hini K.2.2.2.2.2.1 hG.1 hG.2.1 hG.2.2 q0 q1 0 0 ha0 ha1 rfl rfl rfl h1 h2 h3 h4 h5 (fun _ _ => rfl) hframes hlocals hdg (fun H1 l1 h1 h2 h3 => kk H1 l1 (hw ▸ ⟨h1, h2, h3⟩))
theorem g_copyl (K : WK p s m c args cc maxL own Ts D cI cJ cZ cG A) (hG : HW D A s.heap ws H locs) {nL : Nat} {lv : List (Nat × Value)} (hlv : lv_has ls maxL lv) {index : Nat} (hlink : (Cond.methodLink own index arraycopyName).before args s = true) (hnat : (Cond.native arraycopyName).before args s = true) (hstat : (Cond.static arraycopyName).before args s = true) (hini : (Cond.initialized "java/lang/System").before args s = true)
    (q0 q1 : Nat) {a0 : Nat} {n0 n1 : Nat} {f g : Nat → Int64} (ha0 : ws[q0]? = some (a0, .inl (cJ, n0, .inr (.inl f)))) (ha1 : ws[q1]? = some (a, .inl (cJ, n1, .inr (.inl g)))) {sp dp n : Int32} (h1 : ¬ sp < 0) (h2 : ¬ dp < 0) (h3 : ¬ n < 0) (h4 : sp.toNatClampNeg + n.toNatClampNeg ≤ n0) (h5 : dp.toNatClampNeg + n.toNatClampNeg ≤ n1)
    (hframes : 1 ≤ R.frames) (hlocals : (rest.map fun v => v.category).sum + (nativeFrameWords "java/lang/System" "arraycopy" 5 + 11) ≤ R.locals) (hw : ws.set q1 (a, .inl (cJ, n1, .inr (.inl (va_cpy f g sp.toNatClampNeg dp.toNatClampNeg n.toNatClampNeg)))) = ws') (hdg : decode cc pc = .ok (.invokestatic index, 3))
    (kk : ∀ (H1 : Heap) (locs1 : List Loc), HW D A s.heap ws' H1 locs1 → W p l e R s m args below meth c H1 locs1 cells slots Q (F0 m (pc + 3) ls rest)) : W p l e R s m args below meth c H locs cells slots Q (F0 m pc ls (.int n :: .int dp :: .ref a :: .int sp :: .ref a0 :: rest)) :=
  va_copyl K.1 K.2.1 (K.2.2.1.trans hlv.1.symm) K.2.2.2.1 hlink hnat hstat hini K.2.2.2.2.2.1 hG.1 hG.2.1 hG.2.2 q0 q1 1 1 ha0 ha1 rfl rfl rfl h1 h2 h3 h4 h5 (fun _ _ => rfl) hframes hlocals hdg (fun H1 l1 h1 h2 h3 => kk H1 l1 (hw ▸ ⟨h1, h2, h3⟩))
variable {y : MethodName} {bytes : ByteArray} {mL n index : Nat} {ret : Option FieldType} {wy : List Cond} {rm : Room} {C : String} {As : List Value} {lv : List (Nat × Value)} {ci : Nat} {T : u_T} {N : Nat} {fs : List Value}
theorem g_runV (K : WK p s m c args cc maxL own Ts D cI cJ cZ cG A) (hG : HW D A s.heap ws H locs) (hlv : lv_has ls maxL lv) (is : List Nat) (hC : is.map (fun i => ws[i]?) = wc.map some) (hn : va_nd is = true) (q0 : Nat) (hc : vwCl[ci]? = some (C, T, N)) (he : ws[q0]? = some (b, .inr (ci, fs))) {Qc : Array Value → State → Outcome → State → Prop} {free : Addr → Prop} (hM : Met l y wy rm (cp D cI cJ cZ cG (.ref b :: As) H.size wc) Qc 0 0 free) (cw : CallW R s args own C index y bytes mL ret wy rm 0 0 n)
    (hln : As.length = n) (hst : st0 = As.reverse ++ .ref b :: rest) (hrest : (rest.map fun v => v.category).sum ≤ 8) (hcs : cells ≤ R.cells ∧ slots ≤ R.slots) (hdg : decode cc pc = .ok (.invokevirtual index, 3)) : va_Run p l e R s m args below meth c H locs cells slots 0 0 (F0 m pc ls st0) rest (Qc (Value.ref b :: As).toArray) free :=
  va_runV (As := As) (rest := rest) ⟨K.1, K.2.1, K.2.2.1, K.2.2.2.1, K.2.2.2.2.1⟩ hM cw (cp_preV K.2.2.2.2.2.1 hG.1 hG.2.1 is hC hn q0 hc he) rfl hln hlv.1 hst (lv_room hrest) hdg hcs
theorem g_runS (K : WK p s m c args cc maxL own Ts D cI cJ cZ cG A) (hG : HW D A s.heap ws H locs) (hlv : lv_has ls maxL lv) (is : List Nat) (hC : is.map (fun i => ws[i]?) = wc.map some) (hn : va_nd is = true) {Qc : Array Value → State → Outcome → State → Prop} {free : Addr → Prop} (hM : Met l y wy rm (cp D cI cJ cZ cG As H.size wc) Qc 0 0 free) (cw : CallB R s args own index y bytes mL ret wy rm 0 0 n ∧ (Cond.static y).before args s = true)
    (hln : As.length = n) (hst : st0 = As.reverse ++ rest) (hrest : (rest.map fun v => v.category).sum ≤ 8) (hcs : cells ≤ R.cells ∧ slots ≤ R.slots) (hdg : decode cc pc = .ok (.invokestatic index, 3)) : va_Run p l e R s m args below meth c H locs cells slots 0 0 (F0 m pc ls st0) rest (Qc As.toArray) free :=
  va_runS (As := As) (rest := rest) ⟨K.1, K.2.1, K.2.2.1, K.2.2.2.1, K.2.2.2.2.1⟩ hM cw (cp_preS K.2.2.2.2.2.1 hG.1 hG.2.1 is hC hn) rfl hln hlv.1 hst (lv_room hrest) hdg hcs
theorem g_ki (K : WK p s m c args cc maxL own Ts D cI cJ cZ cG A) (hG : HW D A s.heap ws H locs) (is : List Nat) (hC : is.map (fun i => ws[i]?) = wc.map some) {S : Type} {post : Int32 → S → Prop} {w1 w2 : S → va_W} {a : Array Value} (hr : va_Run p l e R s m args below meth c H locs cells slots 0 0 (F0 m pc ls st0) rest (va_Qi post (fun u t => va_P D vwCl (w1 u) t.heap) (va_A wc H.size) a) (va_A wc H.size)) (ha : ∀ u, (w1 u).map Prod.fst = wc.map Prod.fst) (hj : ∀ u, jset ws is (w1 u) = w2 u)
    (kk : ∀ (r : Int32) (u : S) (H1 : Heap) (locs1 : List Loc), post r u → HW D A s.heap (w2 u) H1 locs1 → W p l e R s m args below meth c H1 locs1 cells slots Q (F0 m (pc + 3) ls (.int r :: rest))) : W p l e R s m args below meth c H locs cells slots Q (F0 m pc ls st0) :=
  jk_i hr hG.1 hG.2.1 hG.2.2 K.2.2.2.2.2.2 is hC ha (fun r u H1 l1 hp h1 h2 h3 => kk r u H1 l1 hp (hj u ▸ ⟨h1, h2, h3⟩))
theorem g_kl (K : WK p s m c args cc maxL own Ts D cI cJ cZ cG A) (hG : HW D A s.heap ws H locs) (is : List Nat) (hC : is.map (fun i => ws[i]?) = wc.map some) {S : Type} {post : Int64 → S → Prop} {w1 w2 : S → va_W} {a : Array Value} (hr : va_Run p l e R s m args below meth c H locs cells slots 0 0 (F0 m pc ls st0) rest (va_Ql post (fun u t => va_P D vwCl (w1 u) t.heap) (va_A wc H.size) a) (va_A wc H.size)) (ha : ∀ u, (w1 u).map Prod.fst = wc.map Prod.fst) (hj : ∀ u, jset ws is (w1 u) = w2 u)
    (kk : ∀ (r : Int64) (u : S) (H1 : Heap) (locs1 : List Loc), post r u → HW D A s.heap (w2 u) H1 locs1 → W p l e R s m args below meth c H1 locs1 cells slots Q (F0 m (pc + 3) ls (.long r :: rest))) : W p l e R s m args below meth c H locs cells slots Q (F0 m pc ls st0) :=
  jk_l hr hG.1 hG.2.1 hG.2.2 K.2.2.2.2.2.2 is hC ha (fun r u H1 l1 hp h1 h2 h3 => kk r u H1 l1 hp (hj u ▸ ⟨h1, h2, h3⟩))
theorem g_kv (K : WK p s m c args cc maxL own Ts D cI cJ cZ cG A) (hG : HW D A s.heap ws H locs) (is : List Nat) (hC : is.map (fun i => ws[i]?) = wc.map some) {S : Type} {post : S → Prop} {w1 w2 : S → va_W} {a : Array Value} (hr : va_Run p l e R s m args below meth c H locs cells slots 0 0 (F0 m pc ls st0) rest (va_Qv post (fun u t => va_P D vwCl (w1 u) t.heap) (va_A wc H.size) a) (va_A wc H.size)) (ha : ∀ u, (w1 u).map Prod.fst = wc.map Prod.fst) (hj : ∀ u, jset ws is (w1 u) = w2 u)
    (kk : ∀ (u : S) (H1 : Heap) (locs1 : List Loc), post u → HW D A s.heap (w2 u) H1 locs1 → W p l e R s m args below meth c H1 locs1 cells slots Q (F0 m (pc + 3) ls rest)) : W p l e R s m args below meth c H locs cells slots Q (F0 m pc ls st0) :=
  jk_v hr hG.1 hG.2.1 hG.2.2 K.2.2.2.2.2.2 is hC ha (fun u H1 l1 hp h1 h2 h3 => kk u H1 l1 hp (hj u ▸ ⟨h1, h2, h3⟩))
theorem g_ri (K : WK p s m c args cc maxL own Ts D cI cJ cZ cG A) (hG : HW D A s.heap ws H locs) (is : List Nat) (hC : is.map (fun i => ws[i]?) = wc.map some) {post : Int32 → Unit → Prop} {a : Array Value} (hr : va_Run p l e R s m args below meth c H locs cells slots 0 0 (F0 m pc ls st0) rest (va_Qi post (fun _ t => va_P D vwCl wc t.heap) (va_A wc H.size) a) (va_A wc H.size))
    (kk : ∀ (r : Int32) (H1 : Heap) (locs1 : List Loc), post r () → HW D A s.heap ws H1 locs1 → W p l e R s m args below meth c H1 locs1 cells slots Q (F0 m (pc + 3) ls (.int r :: rest))) : W p l e R s m args below meth c H locs cells slots Q (F0 m pc ls st0) :=
  jr_i hr hG.1 hG.2.1 hG.2.2 K.2.2.2.2.2.2 is hC (fun r H1 l1 hp h1 h3 => kk r H1 l1 hp ⟨h1, hG.2.1, h3⟩)
theorem g_rl (K : WK p s m c args cc maxL own Ts D cI cJ cZ cG A) (hG : HW D A s.heap ws H locs) (is : List Nat) (hC : is.map (fun i => ws[i]?) = wc.map some) {post : Int64 → Unit → Prop} {a : Array Value} (hr : va_Run p l e R s m args below meth c H locs cells slots 0 0 (F0 m pc ls st0) rest (va_Ql post (fun _ t => va_P D vwCl wc t.heap) (va_A wc H.size) a) (va_A wc H.size))
    (kk : ∀ (r : Int64) (H1 : Heap) (locs1 : List Loc), post r () → HW D A s.heap ws H1 locs1 → W p l e R s m args below meth c H1 locs1 cells slots Q (F0 m (pc + 3) ls (.long r :: rest))) : W p l e R s m args below meth c H locs cells slots Q (F0 m pc ls st0) :=
  jr_l hr hG.1 hG.2.1 hG.2.2 K.2.2.2.2.2.2 is hC (fun r H1 l1 hp h1 h3 => kk r H1 l1 hp ⟨h1, hG.2.1, h3⟩)
end GW

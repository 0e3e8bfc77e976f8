/-! ===== rows for constructors: new arrays and objects beside the world ===== -/
/-- the words that the tables' own lists leave out: the nest's links to its constructors, the class of int[][] -/
def NWs (U : State) : Prop := va_Nw (.methodLinkNest RX6 9 yX5_init RX6) U ∧ va_Nw (.methodLinkNest RX6 18 yX3_init RX6) U ∧ va_Nw (.methodLinkNest RX6 25 yX2_init RX6) U ∧ va_Nw (.methodLinkNest RX6 32 yX0_init RX6) U ∧ va_Nw (.methodLinkNest RX6 39 yX1_init RX6) U ∧ va_Nw (.arrayOver (.array .int)) U
theorem NWs_same {u U : State} (h : u.vm = U.vm) (z : NWs u) : NWs U := ⟨va_Nw.same rfl h z.1, va_Nw.same rfl h z.2.1, va_Nw.same rfl h z.2.2.1, va_Nw.same rfl h z.2.2.2.1, va_Nw.same rfl h z.2.2.2.2.1, Jvm.Stand.arrayOver_alikeB (by rw [h]; exact Vm.Alike.refl _) z.2.2.2.2.2⟩
theorem NWs_warm {s U : State} (hW : s.WarmedH U.vm) (z : NWs s) : NWs U := ⟨va_Nw.warmM hW z.1, va_Nw.warmM hW z.2.1, va_Nw.warmM hW z.2.2.1, va_Nw.warmM hW z.2.2.2.1, va_Nw.warmM hW z.2.2.2.2.1, Jvm.Stand.arrayOver_alikeB hW.alike z.2.2.2.2.2⟩
def cpN (D : va_G) (cI cJ cZ cG : ClassId) (av : List Value) (sz : Nat) (wc : va_W) : Array Value → State → Prop := va_Pc av (fun U => U.heap.size = sz ∧ va_P D vwCl wc U.heap ∧ va_K D vwCl (tyw cI cJ cZ cG) U ∧ va_D (fun _ => True) wc ∧ NWs U)
theorem cpN_blind {D : va_G} {cI cJ cZ cG : ClassId} {av : List Value} {sz : Nat} {wc : va_W} : FrameBlind (cpN D cI cJ cZ cG av sz wc) := fun a U g mk q => by
  obtain ⟨q0, q1, qP, qK, qD, qN⟩ := q
  exact ⟨q0, q1, qP, va_K.moved (u := U) (U := U.calling g mk a) (Vm.Alike.refl U.vm) qK, qD, NWs_same (u := U) rfl qN⟩
abbrev MetC (l : Launch) (y : MethodName) (ws : List Cond) (rm : Room) (D : va_G) (cI cJ cZ cG : ClassId) (av : List Value) (sz : Nat) (wc : va_W) {S : Type} (w1 : S → va_W) (mc ms : Nat) : Prop :=
  Met l y ws rm (cpN D cI cJ cZ cG av sz wc) (va_Qv (fun _ : S => True) (fun u t => va_P D vwCl (w1 u) t.heap ∧ va_D (va_A wc sz) (w1 u)) (va_A wc sz)) mc ms (va_A wc sz)
theorem met_c {l : Launch} {y : MethodName} {ws ws' : List Cond} {rm : Room} {D : va_G} {cI cJ cZ cG : ClassId} {av : List Value} {sz : Nat} {wc : va_W} {S : Type} {w1 : S → va_W} {mc ms : Nat} {cc : ByteArray} {maxL : Nat}
    (hy : plainName y.cls = true) (hw : ws = Cond.code y cc maxL none :: ws') (hln : (lg_sl av).length ≤ maxL) (hnm : y.name = "<init>")
    (body : ∀ (p : Program) (e : Env) (s : State) (m : MethodId) (args : Array Value) (below : List Frame) (meth : Method) (c : Code) (A : Nat → Prop) (Q : State → Prop) (H : Heap) (locs : List Loc) (ls : Array Slot), WK p s m c args cc maxL y.cls ws D cI cJ cZ cG A → NWs s → meth.name = "<init>" → HW D A s.heap wc H locs → lv_has ls maxL (lv_args 0 av) →
      (∀ (u : S) (H : Heap) (locs : List Loc) (pc : Nat) (ls : Array Slot), decode cc pc = .ok (.return_, 1) → HW D A s.heap (w1 u) H locs → W p l e rm s m args below meth c H locs mc ms Q (F0 m pc ls [])) →
      W p l e rm s m args below meth c H locs 0 0 Q (F0 m 0 ls [])) : MetC l y ws rm D cI cJ cZ cG av sz wc w1 mc ms := by
  refine Met.ofW (cc := cc) (maxL := maxL) (ret := none) hy hw ?_
  intro p e s m args below meth c s₁ B hml hv
  obtain ⟨rfl, hsz, hP, hK, hD0, hN⟩ := hv
  subst hsz
  have hlocks := B.notSynchronized
  have hin : meth.name = "<init>" := by
    have h := (name_of_methodNamed B.named B.method).1
    rw [h]
    exact hnm
  have hD := hD0.self (sz := s.heap.size)
  have hl := lv_entry av (n := maxL) hln
  rw [lg_entry_eq]
  refine body p e s m av.toArray below meth c (va_A wc s.heap.size) _ _ _ _ ⟨B.exec, B.bytes, hml, findClass_of_methodNamed B.named, atoms_spec (ws := ws) B.pre, hK, fun q h => Or.inr h⟩ hN hin ⟨hP, hD, va_S.rf⟩ hl ?_
  intro u H locs pc ls hdg hG
  exact W.vret B.exec B.bytes B.returns (fun t ht hW => ⟨⟨u, rfl, trivial, by rw [ht]; exact hG.1, hG.2.1⟩, hG.2.2.F ht⟩) hG.2.2.2.2 hdg
section CT
variable {p : Program} {l : Launch} {e : Env} {R : Room} {s : State} {m : MethodId} {args : Array Value} {below : List Frame} {meth : Method} {c : Code} {H : Heap} {locs : List Loc} {cells slots : Nat} {Q : State → Prop}
variable {cc : ByteArray} {pc maxL : Nat} {ls : Array Slot} {rest st0 : List Value} {A : Nat → Prop} {D : va_G} {cI cJ cZ cG : ClassId} {own : String} {Ts : List Cond} {ws ws' wc wr : va_W} {a b : Nat}
theorem HW.to (hG : HW D A s.heap ws H locs) (is : List Nat) (hn : va_nd is = true) (hC : is.map (fun i => ws[i]?) = ws'.map some) : HW D A s.heap ws' H locs := ⟨hG.1.cut hC, hG.2.1.sub is hn hC, hG.2.2⟩
theorem g_newK (K : WK p s m c args cc maxL own Ts D cI cJ cZ cG A) (hG : HW D A s.heap ws H locs) {atype : ArrayType} (harr : (Cond.arrayClass (newarray.typeOf atype)).before args s = true) {cA : ClassId} (hfc : s.vm.findClass ("[" ++ (newarray.typeOf atype).toString) = some cA) {n : Int32} {N' : Nat} {a0 : vp_A} (ha : vp_cell cA a0 = arrV cA N' (fun _ => defaultValue (newarray.typeOf atype))) (hn : ¬ n < 0) (hN : n.toNatClampNeg = N') (hbytes : N' * componentBytes (newarray.typeOf atype) ≤ 536870912) (hcells : cells + 1 ≤ R.cells) (hslots : slots + N' ≤ R.slots) (hdg : decode cc pc = .ok (.newarray atype, 2))
    (kk : ∀ (q : Nat) (H1 : Heap), HW D A s.heap (ws ++ [(q, .inl (cA, a0))]) H1 locs → W p l e R s m args below meth c H1 locs (cells + 1) (slots + N') Q (F0 m (pc + 2) ls (.ref q :: rest))) : W p l e R s m args below meth c H locs cells slots Q (F0 m pc ls (.int n :: rest)) := by
  refine va_newaK K.1 K.2.1 harr rfl hdg rfl hn hN hbytes hcells hslots rfl fun H1 cA' e1 z1 o1 hAr hNm => ?_
  have ec : cA' = cA := Option.some.inj (hNm.symm.trans hfc)
  subst ec
  have hk : ∀ (k : Nat) (x : Nat × va_E), ws[k]? = some x → H1[x.1]? = H[x.1]? := fun k x hx => o1 x.1 ((hG.1 k x hx).lt)
  refine kk H.size H1 ⟨(hG.1.kept hk).app (fun k x hx => ?_), hG.2.1.push hG.1 rfl (K.2.2.2.2.2.2 _ hG.2.2.1), ⟨Nat.le_trans hG.2.2.1 (by omega), fun x h1 h2 => (o1 x (Nat.lt_of_lt_of_le h1 hG.2.2.1)).trans (hG.2.2.2.1 x h1 h2), hG.2.2.2.2⟩⟩
  have hz : k < 1 := (List.getElem?_eq_some_iff.mp hx).1
  rw [show k = 0 by omega] at hx
  cases hx
  show H1[H.size]? = some (vp_cell _ _)
  rw [ha]
  exact e1
theorem g_newi (K : WK p s m c args cc maxL own Ts D cI cJ cZ cG A) (hG : HW D A s.heap ws H locs) (harr : (Cond.arrayClass .int).before args s = true) {n : Int32} {N' : Nat} (hn : ¬ n < 0) (hN : n.toNatClampNeg = N') (hbytes : N' * 4 ≤ 536870912) (hcells : cells + 1 ≤ R.cells) (hslots : slots + N' ≤ R.slots) (hdg : decode cc pc = .ok (.newarray .int, 2))
    (kk : ∀ (q : Nat) (H1 : Heap), HW D A s.heap (ws ++ [(q, .inl (cI, N', .inl (fun _ => 0)))]) H1 locs → W p l e R s m args below meth c H1 locs (cells + 1) (slots + N') Q (F0 m (pc + 2) ls (.ref q :: rest))) : W p l e R s m args below meth c H locs cells slots Q (F0 m pc ls (.int n :: rest)) :=
  g_newK (atype := .int) (cA := cI) (a0 := (N', .inl (fun _ => 0))) K hG harr (K.2.2.2.2.2.1.2 0 (cI, .int) rfl).2 rfl hn hN hbytes hcells hslots hdg kk
theorem g_newl (K : WK p s m c args cc maxL own Ts D cI cJ cZ cG A) (hG : HW D A s.heap ws H locs) (harr : (Cond.arrayClass .long).before args s = true) {n : Int32} {N' : Nat} (hn : ¬ n < 0) (hN : n.toNatClampNeg = N') (hbytes : N' * 8 ≤ 536870912) (hcells : cells + 1 ≤ R.cells) (hslots : slots + N' ≤ R.slots) (hdg : decode cc pc = .ok (.newarray .long, 2))
    (kk : ∀ (q : Nat) (H1 : Heap), HW D A s.heap (ws ++ [(q, .inl (cJ, N', .inr (.inl (fun _ => 0))))]) H1 locs → W p l e R s m args below meth c H1 locs (cells + 1) (slots + N') Q (F0 m (pc + 2) ls (.ref q :: rest))) : W p l e R s m args below meth c H locs cells slots Q (F0 m pc ls (.int n :: rest)) :=
  g_newK (atype := .long) (cA := cJ) (a0 := (N', .inr (.inl (fun _ => 0)))) K hG harr (K.2.2.2.2.2.1.2 1 (cJ, .long) rfl).2 rfl hn hN hbytes hcells hslots hdg kk
theorem g_newz (K : WK p s m c args cc maxL own Ts D cI cJ cZ cG A) (hG : HW D A s.heap ws H locs) (harr : (Cond.arrayClass .boolean).before args s = true) {n : Int32} {N' : Nat} (hn : ¬ n < 0) (hN : n.toNatClampNeg = N') (hbytes : N' * componentBytes .boolean ≤ 536870912) (hcells : cells + 1 ≤ R.cells) (hslots : slots + N' ≤ R.slots) (hdg : decode cc pc = .ok (.newarray .boolean, 2))
    (kk : ∀ (q : Nat) (H1 : Heap), HW D A s.heap (ws ++ [(q, .inl (cZ, N', .inl (fun _ => 0)))]) H1 locs → W p l e R s m args below meth c H1 locs (cells + 1) (slots + N') Q (F0 m (pc + 2) ls (.ref q :: rest))) : W p l e R s m args below meth c H locs cells slots Q (F0 m pc ls (.int n :: rest)) :=
  g_newK (atype := .boolean) (cA := cZ) (a0 := (N', .inl (fun _ => 0))) K hG harr (K.2.2.2.2.2.1.2 2 (cZ, .boolean) rfl).2 rfl hn hN hbytes hcells hslots hdg kk
theorem g_putF (K : WK p s m c args cc maxL own Ts D cI cJ cZ cG A) (hG : HW D A s.heap ws H locs) (hini : meth.name = "<init>") {C : String} {T : u_T} {N ci index : Nat} (hin : ∀ w ∈ u_ws C T N, w ∈ Ts) (ty0 : Nat → FieldType) (hty : ∀ k, k < N → parseFieldDescriptor (T k).2.2.1 = some (ty0 k)) (hnm : ∀ a, a < N → ∀ b, b < N → a ≠ b → (T a).2.1 ≠ (T b).2.1) (q0 : Nat) {fs : List Value} (he : ws[q0]? = some (a, .inr (ci, fs))) (hc : vwCl[ci]? = some (C, T, N)) (k : Nat) (hk : k < N) (hlink : (Cond.fieldLink own index own (T k).2.1 (T k).2.2.1).before args s = true) (hfin : (T k).2.2.2 = true) (hdecl : (T k).1 = own) {v : Value} (hn : narrow (ty0 k) v = v) (hfit : fits (ty0 k) v = true) (hl : k < fs.length)
    (hw : ws.set q0 (a, .inr (ci, fs.set k v)) = ws') (hdg : decode cc pc = .ok (.putfield index, 3)) (kk : ∀ (H1 : Heap) (locs1 : List Loc), HW D A s.heap ws' H1 locs1 → W p l e R s m args below meth c H1 locs1 cells slots Q (F0 m (pc + 3) ls rest)) : W p l e R s m args below meth c H locs cells slots Q (F0 m pc ls (v :: .ref a :: rest)) :=
  va_putF (ty := ty0 k) K.1 K.2.1 K.2.2.2.2.1 hin ty0 hty hnm K.2.2.2.1 K.2.2.2.2.2.1 hG.1 hG.2.1 hG.2.2 q0 he hc k hk hlink (fun _ h9 => hdecl ▸ h9) hfin hini hdecl (hty k hk) hn hfit hl hdg (fun H1 l1 h1 h2 h3 => kk H1 l1 (hw ▸ ⟨h1, h2, h3⟩))
theorem g_newo (K : WK p s m c args cc maxL own Ts D cI cJ cZ cG A) (hG : HW D A s.heap ws H locs) {C : String} {T : u_T} {N ci index : Nat} (hin : ∀ w ∈ u_ws C T N, w ∈ Ts) (ty : Nat → FieldType) (hty : ∀ k, k < N → parseFieldDescriptor (T k).2.2.1 = some (ty k)) (hcl : (Cond.classLink own index C).before args s = true) (hinst : (Cond.instantiable C N).before args s = true) (hini : (Cond.initialized C).before args s = true) (hc : vwCl[ci]? = some (C, T, N)) {fs : List Value} (hfs : ∀ j, j < N → defaultValue (ty j) = vp_V fs j) (hcells : cells + 1 ≤ R.cells) (hslots : slots + N ≤ R.slots) (hdg : decode cc pc = .ok (.new index, 3))
    (kk : ∀ (q : Nat) (H1 : Heap), HW D A s.heap (ws ++ [(q, .inr (ci, fs))]) H1 locs → W p l e R s m args below meth c H1 locs (cells + 1) (slots + N) Q (F0 m (pc + 3) ls (.ref q :: rest))) : W p l e R s m args below meth c H locs cells slots Q (F0 m pc ls rest) :=
  va_new K.1 K.2.1 K.2.2.2.2.1 hin ty hty K.2.2.2.1 hcl hinst hini K.2.2.2.2.2.1 hG.1 hG.2.1 hG.2.2 K.2.2.2.2.2.2 hc hfs hcells hslots hdg (fun q H1 h1 h2 h3 => kk q H1 ⟨h1, h2, h3⟩)
/-- the callee's cell cut out, what it made beside the rest -/
theorem g_cv (K : WK p s m c args cc maxL own Ts D cI cJ cZ cG A) (hG : HW D A s.heap ws H locs) (isC isR : List Nat) (hC : isC.map (fun i => ws[i]?) = wc.map some) (hR : isR.map (fun i => ws[i]?) = wr.map some) (hn : va_nd isR = true) (hdis : ∀ i ∈ isR, i ∉ isC) {S : Type} {w1 : S → va_W} {mc ms : Nat} {a : Array Value} (hr : va_Run p l e R s m args below meth c H locs cells slots mc ms (F0 m pc ls st0) rest (va_Qv (fun _ : S => True) (fun u t => va_P D vwCl (w1 u) t.heap ∧ va_D (va_A wc H.size) (w1 u)) (va_A wc H.size) a) (va_A wc H.size))
    (kk : ∀ (u : S) (H1 : Heap) (locs1 : List Loc), HW D A s.heap (wr ++ w1 u) H1 locs1 → W p l e R s m args below meth c H1 locs1 (cells + mc) (slots + ms) Q (F0 m (pc + 3) ls rest)) : W p l e R s m args below meth c H locs cells slots Q (F0 m pc ls st0) := by
  have hF := va_free (wc := wc) hG.2.1 hG.2.2 K.2.2.2.2.2.2 isC hC
  refine va_callv hr hG.2.2 (fun q _ h => hF q h) hF (fun u t H1 locs1 ht hvm _ hB hz1 hk1 hS1 => ?_)
  have h1 : va_P D vwCl (w1 u) t.heap := hB.1
  rw [ht] at h1
  obtain ⟨h2, h3⟩ := va_join hG.1 hG.2.1 isC isR hC hR hn hdis hk1 hF h1 hB.2
  exact kk u H1 locs1 ⟨h2, h3, hS1⟩
theorem cpN_pre {As : List Value} (K : WK p s m c args cc maxL own Ts D cI cJ cZ cG A) (hN : NWs s) (hG : HW D A s.heap ws H locs) (is : List Nat) (hn : va_nd is = true) (hC : is.map (fun i => ws[i]?) = wc.map some) : PreS s H (cpN D cI cJ cZ cG As H.size wc) As :=
  ⟨cpN_blind, fun U hU hW => ⟨rfl, by rw [hU], by rw [hU]; exact hG.1.cut hC, va_K.moved hW.alike K.2.2.2.2.2.1, (hG.2.1.sub is hn hC).weaken (fun _ _ _ _ => trivial), NWs_warm hW hN⟩⟩
theorem g_mna (K : WK p s m c args cc maxL own Ts D cI cJ cZ cG A) (hN : NWs s) (hG : HW D A s.heap ws H locs) {index : Nat} (hcl : (Cond.classLink own index "[[I").before args s = true) (harr : (Cond.arrayClass .int).before args s = true) {n k : Int32} {N' K' : Nat} (hn : ¬ n < 0) (hk : ¬ k < 0) (hn2 : n.toNatClampNeg = N') (hk2 : k.toNatClampNeg = K') (hb1 : N' * 4 ≤ 536870912) (hb2 : K' * 4 ≤ 536870912) (hcells : cells + (1 + N') ≤ R.cells) (hslots : slots + (N' + N' * K') ≤ R.slots) (hdg : decode cc pc = .ok (.multianewarray index 2, 4))
    (kk : ∀ (q : Nat) (r : Nat → Nat) (H1 : Heap), HW D A s.heap ((ws ++ [(q, .inl (cG, N', .inr (.inr (.inr (.inr (gro N' r))))))]) ++ (List.range N').map (fun i => (r i, .inl (cI, K', .inl (fun _ => 0))))) H1 locs → W p l e R s m args below meth c H1 locs (cells + 1 + N') (slots + N' + N' * K') Q (F0 m (pc + 4) ls (.ref q :: rest))) : W p l e R s m args below meth c H locs cells slots Q (F0 m pc ls (.int k :: .int n :: rest)) := by
  subst hn2
  subst hk2
  intro T hT Xs
  obtain ⟨vm₁, cA, comp, -, fA, fC, hO, -, X', step⟩ := Xs.multianewarray2F (ty := .int) K.1 K.2.2.2.1 hcl (Jvm.Stand.arrayOver_alikeB (Vm.Alike.refl _) hN.2.2.2.2.2) harr (g := F0 m pc ls (.int k :: .int n :: rest)) rfl (by rw [K.2.1]; exact hdg) rfl hn hk hb1 hb2 (by omega) rfl rfl hcells hslots
  have e1 : cA = cG := Option.some.inj (fA.symm.trans (K.2.2.2.2.2.1.2 3 (cG, .array .int) rfl).2)
  have e2 : comp = cI := Option.some.inj (fC.symm.trans (K.2.2.2.2.2.1.2 0 (cI, .int) rfl).2)
  subst e1
  subst e2
  generalize hF : Jvm.Free.Multi.fill (T.setVm vm₁) cA comp n.toNatClampNeg k.toNatClampNeg (defaultValue .int) n.toNatClampNeg = F at X' step
  have hTh : (T.setVm vm₁).heap = H := hT
  obtain ⟨f1, f2, -, -⟩ := Jvm.Free.Multi.fill_facts (T.setVm vm₁) cA comp n.toNatClampNeg k.toNatClampNeg (defaultValue .int) n.toNatClampNeg
  rw [hF, hTh] at f1 f2
  have hold : ∀ x : Nat, x < H.size → F.heap[x]? = H[x]? := fun x hx => by
    have := Jvm.Free.Multi.fill_old (T.setVm vm₁) cA comp n.toNatClampNeg k.toNatClampNeg (defaultValue .int) (a := x) (by rw [hTh]; exact hx) n.toNatClampNeg
    rw [hF, hTh] at this
    exact this
  have hrow : ∀ j : Nat, j < n.toNatClampNeg → F.heap[H.size + 1 + j]? = some (vp_cell comp (k.toNatClampNeg, .inl (fun _ => 0))) := fun j hj => by
    have := Jvm.Free.Multi.fill_inner (T.setVm vm₁) cA comp n.toNatClampNeg k.toNatClampNeg (defaultValue .int) n.toNatClampNeg j hj
    rw [hF, hTh] at this
    rw [this]
    show some _ = some (arrV comp k.toNatClampNeg (fun _ => Value.int 0))
    rw [← arrV_new]
    rfl
  have hout : ∀ i : Nat, Jvm.Free.Multi.outerC cA n.toNatClampNeg H.size i = arrV cA n.toNatClampNeg (fun j => va_rf (if j < i then some (H.size + 1 + j) else none)) := by
    intro i
    induction i with
    | zero =>
      show ({ cls := cA, slots := Array.replicate n.toNatClampNeg .null, vm := .none } : Cell) = _
      rw [arrV_new]
      refine congrArg (arrV cA n.toNatClampNeg) (funext fun j => ?_)
      simp [va_rf]
    | succ i ih =>
      show (Jvm.Free.Multi.outerC cA n.toNatClampNeg H.size i).setSlot i (.ref (H.size + 1 + i)) = _
      rw [ih, arrV_store]
      refine congrArg (arrV cA n.toNatClampNeg) (funext fun j => ?_)
      by_cases q : j = i
      · subst q
        simp [updV, va_rf]
      · by_cases h : j < i
        · simp [updV, q, h, Nat.lt_succ_of_lt h]
        · simp [updV, q, h, show ¬ j < i + 1 by omega]
  have f3 : F.heap[H.size]? = some (vp_cell cA (n.toNatClampNeg, .inr (.inr (.inr (.inr (gro n.toNatClampNeg (fun i => H.size + 1 + i))))))) := by
    rw [f2, hout]
    rfl
  have hP1 : va_P D vwCl (ws ++ [(H.size, .inl (cA, n.toNatClampNeg, .inr (.inr (.inr (.inr (gro n.toNatClampNeg (fun i => H.size + 1 + i)))))))]) F.heap := (hG.1.kept (fun k9 x hx => hold x.1 ((hG.1 k9 x hx).lt))).app (fun k9 x hx => by
    have h0 : k9 < 1 := (List.getElem?_eq_some_iff.mp hx).1
    rw [show k9 = 0 by omega] at hx
    cases hx
    exact f3)
  have hP2 := hP1.app (w2 := (List.range n.toNatClampNeg).map (fun i => ((H.size + 1 + i, .inl (comp, k.toNatClampNeg, .inl (fun _ => 0))) : Nat × va_E))) (fun k9 x hx => by
    obtain ⟨i, hi, rfl⟩ := List.mem_map.mp (List.mem_of_getElem? hx)
    exact hrow i (List.mem_range.mp hi))
  have hD1 : va_D A (ws ++ [(H.size, .inl (cA, n.toNatClampNeg, .inr (.inr (.inr (.inr (gro n.toNatClampNeg (fun i => H.size + 1 + i)))))))]) := hG.2.1.push hG.1 rfl (K.2.2.2.2.2.2 _ hG.2.2.1)
  have hle : ∀ (k9 : Nat) (x : Nat × va_E), (ws ++ [(H.size, (.inl (cA, n.toNatClampNeg, .inr (.inr (.inr (.inr (gro n.toNatClampNeg (fun i => H.size + 1 + i)))))) : va_E))])[k9]? = some x → x.1 ≤ H.size := fun k9 x hx => by
    rcases List.mem_append.mp (List.mem_of_getElem? hx) with h | h
    · obtain ⟨k8, h8⟩ := List.getElem?_of_mem h
      exact Nat.le_of_lt ((hG.1 k8 x h8).lt)
    · rw [List.mem_singleton.mp h]
      exact Nat.le_refl _
  have hD2 : va_D A ((ws ++ [(H.size, (.inl (cA, n.toNatClampNeg, .inr (.inr (.inr (.inr (gro n.toNatClampNeg (fun i => H.size + 1 + i)))))) : va_E))]) ++ (List.range n.toNatClampNeg).map (fun i => ((H.size + 1 + i, .inl (comp, k.toNatClampNeg, .inl (fun _ => 0))) : Nat × va_E))) := by
    have hr : ∀ (k9 : Nat) (x : Nat × va_E), ((List.range n.toNatClampNeg).map (fun i => ((H.size + 1 + i, .inl (comp, k.toNatClampNeg, .inl (fun _ => 0))) : Nat × va_E)))[k9]? = some x → x.1 = H.size + 1 + k9 := fun k9 x hx => by
      rw [List.getElem?_map] at hx
      by_cases h9 : k9 < n.toNatClampNeg
      · rw [List.getElem?_range h9] at hx
        cases hx
        rfl
      · have hn0 : (List.range n.toNatClampNeg)[k9]? = none := List.getElem?_eq_none (by rw [List.length_range]; omega)
        rw [hn0] at hx
        cases hx
    generalize ws ++ [(H.size, (.inl (cA, n.toNatClampNeg, .inr (.inr (.inr (.inr (gro n.toNatClampNeg (fun i => H.size + 1 + i)))))) : va_E))] = W1 at hD1 hle
    refine ⟨fun i j x y hi hj hxy => ?_, fun k9 x hx => ?_⟩
    · by_cases h1 : i < W1.length <;> by_cases h2 : j < W1.length
      · rw [List.getElem?_append_left h1] at hi
        rw [List.getElem?_append_left h2] at hj
        exact hD1.1 i j x y hi hj hxy
      · rw [List.getElem?_append_left h1] at hi
        rw [List.getElem?_append_right (by omega)] at hj
        have := hle _ _ hi
        have := hr _ _ hj
        omega
      · rw [List.getElem?_append_right (by omega)] at hi
        rw [List.getElem?_append_left h2] at hj
        have := hle _ _ hj
        have := hr _ _ hi
        omega
      · rw [List.getElem?_append_right (by omega)] at hi hj
        have := hr _ _ hi
        have := hr _ _ hj
        omega
    · by_cases h1 : k9 < W1.length
      · rw [List.getElem?_append_left h1] at hx
        exact hD1.2 k9 x hx
      · rw [List.getElem?_append_right (by omega)] at hx
        have := hr _ _ hx
        exact K.2.2.2.2.2.2 _ (by have := hG.2.2.1; omega)
  obtain ⟨t, a1, b1⟩ := kk H.size (fun i => H.size + 1 + i) F.heap ⟨hP2, hD2, by rw [f1]; have := hG.2.2.1; omega, fun x h1 h2 => (hold x (Nat.lt_of_lt_of_le h1 hG.2.2.1)).trans (hG.2.2.2.1 x h1 h2), hG.2.2.2.2⟩ F rfl X'
  refine ⟨t, step t ?_, b1⟩
  have e : T.heap.size = H.size := by rw [hT]
  rw [e]
  exact a1
end CT

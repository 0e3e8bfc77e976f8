/-! ===== behind a call: the new world given outright, held against the old one place by place ===== -/
theorem jnew {A0 : Nat → Prop} {D : va_G} {cl : List vw_C} {ws wc w1 w2 wr : va_W} {H H1 : Heap} (hP : va_P D cl ws H) (hD : va_D A0 ws) (is isR : List Nat) (n : Nat) (hC : is.map (fun i => ws[i]?) = wc.map some) (ha : w1.map Prod.fst = wc.map Prod.fst)
    (hN : is.map (fun i => w2[i]?) = w1.map some) (hR1 : isR.map (fun i => ws[i]?) = wr.map some) (hR2 : isR.map (fun i => w2[i]?) = wr.map some) (hlen : w2.length = n) (hcov : (List.range n).all (fun k => is.contains k || isR.contains k) = true)
    (hk : ∀ q : Nat, q < H.size → ¬ va_A wc H.size q → H1[q]? = H[q]?) (hP1 : va_P D cl w1 H1) (hnd : va_nd is = true) (hdis : isR.all (fun k => !is.contains k) = true) : va_P D cl w2 H1 ∧ va_D A0 w2 := by
  obtain ⟨hlenC, keyC⟩ := jc_key hC
  obtain ⟨hlenN, keyN⟩ := jc_key hN
  have hl : w1.length = wc.length := by simpa using congrArg List.length ha
  have cov : ∀ k, k < n → k ∈ is ∨ k ∈ isR := fun k hk => by
    have h := List.all_eq_true.mp hcov k (List.mem_range.mpr hk)
    simpa using h
  have rest : ∀ k ∈ isR, w2[k]? = ws[k]? := fun k hk => by
    obtain ⟨j, hj⟩ := List.getElem?_of_mem hk
    have h1 : (isR.map (fun i => w2[i]?))[j]? = some (w2[k]?) := by rw [List.getElem?_map, hj]; rfl
    have h2 : (isR.map (fun i => ws[i]?))[j]? = some (ws[k]?) := by rw [List.getElem?_map, hj]; rfl
    rw [hR2, ← hR1, h2] at h1
    exact (Option.some.inj h1).symm
  -- what stands at a place of w2
  have key : ∀ (k : Nat) (q : Nat × va_E), w2[k]? = some q → (∃ j : Nat, is[j]? = some k ∧ w1[j]? = some q) ∨ (k ∉ is ∧ ws[k]? = some q) := fun k q hq => by
    have hkn : k < n := by rw [← hlen]; exact (List.getElem?_eq_some_iff.mp hq).1
    by_cases hm : k ∈ is
    · obtain ⟨j, hj⟩ := List.getElem?_of_mem hm
      have hjl : j < w1.length := by rw [← hlenN]; exact (List.getElem?_eq_some_iff.mp hj).1
      obtain ⟨q', hq'⟩ : ∃ q', w1[j]? = some q' := ⟨w1[j], List.getElem?_eq_getElem hjl⟩
      obtain ⟨i, hi, hw⟩ := keyN j q' hq'
      cases hi.symm.trans hj
      rw [hq] at hw
      cases hw
      exact Or.inl ⟨j, hj, hq'⟩
    · rcases cov k hkn with h | h
      · exact absurd h hm
      · exact Or.inr ⟨hm, by rw [← rest k h]; exact hq⟩
  have adr : ∀ (k : Nat) (q : Nat × va_E), w2[k]? = some q → ∃ q', ws[k]? = some q' ∧ q'.1 = q.1 := fun k q hq => by
    rcases key k q hq with ⟨j, h1, h2⟩ | ⟨-, h2⟩
    · have h3 : (wc.map Prod.fst)[j]? = some q.1 := by rw [← ha, List.getElem?_map, h2]; rfl
      rw [List.getElem?_map] at h3
      cases hw : wc[j]? with
      | none => rw [hw] at h3; cases h3
      | some q' =>
        rw [hw] at h3
        obtain ⟨i, hi, hq2⟩ := keyC j q' hw
        cases hi.symm.trans h1
        exact ⟨q', hq2, Option.some.inj h3⟩
    · exact ⟨q, h2, rfl⟩
  refine ⟨fun k q h => ?_, fun i j x y hi hj hxy => ?_, fun k q h => ?_⟩
  · rcases key k q h with ⟨j, -, h2⟩ | ⟨h1, h2⟩
    · exact hP1 j q h2
    · refine (hP k q h2).kept (hk q.1 ((hP k q h2).lt) ?_)
      rintro (⟨j, e, hj⟩ | hge)
      · obtain ⟨i, hi, hq⟩ := keyC j (q.1, e) hj
        have : k = i := hD.1 k i q (q.1, e) h2 hq rfl
        subst this
        exact h1 (List.mem_of_getElem? hi)
      · exact absurd ((hP k q h2).lt) (Nat.not_lt.mpr hge)
  · obtain ⟨x', hx', ex⟩ := adr i x hi
    obtain ⟨y', hy', ey⟩ := adr j y hj
    exact hD.1 i j x' y' hx' hy' (by rw [ex, ey, hxy])
  · obtain ⟨q', hq', eq⟩ := adr k q h
    rw [← eq]
    exact hD.2 k q' hq'
def jv {α : Type} (x : α) (k : α → Prop) : Prop := k x
theorem jv_abs {α : Type} {x : α} {k : α → Prop} (h : jv x k) : ∃ z : α, z = x ∧ k z := ⟨x, rfl, h⟩
section GN
variable {p : Program} {l : Launch} {e : Env} {R : Room} {s : State} {m : MethodId} {args : Array Value} {below : List Frame} {meth : Method} {c : Code} {H : Heap} {locs : List Loc} {cells slots : Nat} {Q : State → Prop}
variable {cc : ByteArray} {pc maxL : Nat} {ls : Array Slot} {rest st0 : List Value} {A : Nat → Prop} {D : va_G} {cI cJ cZ cG : ClassId} {own : String} {Ts : List Cond} {ws wc : va_W}
theorem g_ni (K : WK p s m c args cc maxL own Ts D cI cJ cZ cG A) (hG : HW D A s.heap ws H locs) (is isR : List Nat) (n : Nat) (hC : is.map (fun i => ws[i]?) = wc.map some) {S : Type} {post : Int32 → S → Prop} {w1 w2 : S → va_W} {a : Array Value} (hr : va_Run p l e R s m args below meth c H locs cells slots 0 0 (F0 m pc ls st0) rest (va_Qi post (fun u t => va_P D vwCl (w1 u) t.heap) (va_A wc H.size) a) (va_A wc H.size)) (ha : ∀ u, (w1 u).map Prod.fst = wc.map Prod.fst)
    (hN : ∀ u, is.map (fun i => (w2 u)[i]?) = (w1 u).map some) {wr : va_W} (hR1 : isR.map (fun i => ws[i]?) = wr.map some) (hR2 : ∀ u, isR.map (fun i => (w2 u)[i]?) = wr.map some) (hlen : ∀ u, (w2 u).length = n) (hcov : (List.range n).all (fun k => is.contains k || isR.contains k) = true) (hnd : va_nd is = true) (hdis : isR.all (fun k => !is.contains k) = true)
    (kk : ∀ (r : Int32) (u : S) (H1 : Heap) (locs1 : List Loc), post r u → HW D A s.heap (w2 u) H1 locs1 → W p l e R s m args below meth c H1 locs1 cells slots Q (F0 m (pc + 3) ls (.int r :: rest))) : W p l e R s m args below meth c H locs cells slots Q (F0 m pc ls st0) := by
  have hF := va_free (wc := wc) hG.2.1 hG.2.2 K.2.2.2.2.2.2 is hC
  refine va_calli hr hG.2.2 (fun q _ h => hF q h) hF (fun r u t H1 locs1 ht hvm hw hB hz1 hk1 hS1 => ?_)
  have hB' : va_P D vwCl (w1 u) t.heap := hB
  rw [ht] at hB'
  obtain ⟨h1, h2⟩ := jnew hG.1 hG.2.1 is isR n hC (ha u) (hN u) hR1 (hR2 u) (hlen u) hcov hk1 hB' hnd hdis
  exact kk r u H1 locs1 hw ⟨h1, h2, hS1⟩
theorem g_nl (K : WK p s m c args cc maxL own Ts D cI cJ cZ cG A) (hG : HW D A s.heap ws H locs) (is isR : List Nat) (n : Nat) (hC : is.map (fun i => ws[i]?) = wc.map some) {S : Type} {post : Int64 → S → Prop} {w1 w2 : S → va_W} {a : Array Value} (hr : va_Run p l e R s m args below meth c H locs cells slots 0 0 (F0 m pc ls st0) rest (va_Ql post (fun u t => va_P D vwCl (w1 u) t.heap) (va_A wc H.size) a) (va_A wc H.size)) (ha : ∀ u, (w1 u).map Prod.fst = wc.map Prod.fst)
    (hN : ∀ u, is.map (fun i => (w2 u)[i]?) = (w1 u).map some) {wr : va_W} (hR1 : isR.map (fun i => ws[i]?) = wr.map some) (hR2 : ∀ u, isR.map (fun i => (w2 u)[i]?) = wr.map some) (hlen : ∀ u, (w2 u).length = n) (hcov : (List.range n).all (fun k => is.contains k || isR.contains k) = true) (hnd : va_nd is = true) (hdis : isR.all (fun k => !is.contains k) = true)
    (kk : ∀ (r : Int64) (u : S) (H1 : Heap) (locs1 : List Loc), post r u → HW D A s.heap (w2 u) H1 locs1 → W p l e R s m args below meth c H1 locs1 cells slots Q (F0 m (pc + 3) ls (.long r :: rest))) : W p l e R s m args below meth c H locs cells slots Q (F0 m pc ls st0) := by
  have hF := va_free (wc := wc) hG.2.1 hG.2.2 K.2.2.2.2.2.2 is hC
  refine va_calll hr hG.2.2 (fun q _ h => hF q h) hF (fun r u t H1 locs1 ht hvm hw hB hz1 hk1 hS1 => ?_)
  have hB' : va_P D vwCl (w1 u) t.heap := hB
  rw [ht] at hB'
  obtain ⟨h1, h2⟩ := jnew hG.1 hG.2.1 is isR n hC (ha u) (hN u) hR1 (hR2 u) (hlen u) hcov hk1 hB' hnd hdis
  exact kk r u H1 locs1 hw ⟨h1, h2, hS1⟩
theorem g_nv (K : WK p s m c args cc maxL own Ts D cI cJ cZ cG A) (hG : HW D A s.heap ws H locs) (is isR : List Nat) (n : Nat) (hC : is.map (fun i => ws[i]?) = wc.map some) {S : Type} {post : S → Prop} {w1 w2 : S → va_W} {a : Array Value} (hr : va_Run p l e R s m args below meth c H locs cells slots 0 0 (F0 m pc ls st0) rest (va_Qv post (fun u t => va_P D vwCl (w1 u) t.heap) (va_A wc H.size) a) (va_A wc H.size)) (ha : ∀ u, (w1 u).map Prod.fst = wc.map Prod.fst)
    (hN : ∀ u, is.map (fun i => (w2 u)[i]?) = (w1 u).map some) {wr : va_W} (hR1 : isR.map (fun i => ws[i]?) = wr.map some) (hR2 : ∀ u, isR.map (fun i => (w2 u)[i]?) = wr.map some) (hlen : ∀ u, (w2 u).length = n) (hcov : (List.range n).all (fun k => is.contains k || isR.contains k) = true) (hnd : va_nd is = true) (hdis : isR.all (fun k => !is.contains k) = true)
    (kk : ∀ (u : S) (H1 : Heap) (locs1 : List Loc), post u → HW D A s.heap (w2 u) H1 locs1 → W p l e R s m args below meth c H1 locs1 cells slots Q (F0 m (pc + 3) ls rest)) : W p l e R s m args below meth c H locs cells slots Q (F0 m pc ls st0) := by
  have hF := va_free (wc := wc) hG.2.1 hG.2.2 K.2.2.2.2.2.2 is hC
  refine va_callv hr hG.2.2 (fun q _ h => hF q h) hF (fun u t H1 locs1 ht hvm hw hB hz1 hk1 hS1 => ?_)
  have hB' : va_P D vwCl (w1 u) t.heap := hB
  rw [ht] at hB'
  obtain ⟨h1, h2⟩ := jnew hG.1 hG.2.1 is isR n hC (ha u) (hN u) hR1 (hR2 u) (hlen u) hcov hk1 hB' hnd hdis
  exact kk u H1 locs1 hw ⟨h1, h2, hS1⟩
end GN

def pw9 (j : Nat) : Int32 := Int32.ofNat (3 ^ j)
/-- what a method needs beside its cells: the row of powers, and the link to a nest mate -/
def Xt (tp : Nat) (A : Nat → Prop) (U : State) (H : Heap) : Prop := va_Z "HexWorkbench$Contest" "POWERS" "[I" (.ref tp) A U H ∧ va_T .int tp 9 (fun j => .int (pw9 j)) A U H ∧ va_Nw (.methodLinkNest "HexWorkbench$Fillings" 62 ⟨"HexWorkbench", "nextSubset", "(JJ)J"⟩ "HexWorkbench") U
theorem Xt_pass {tp : Nat} {A B : Nat → Prop} {s U : State} {H : Heap} {locs : List Loc} (h : Xt tp A s s.heap) (hS : va_S A s.heap H locs) (hB : ∀ q, B q → A q) (hU : U.heap = H) (hW : s.WarmedH U.vm) : Xt tp B U U.heap := by
  obtain ⟨h1, h2, h3⟩ := h
  rw [hU]
  exact ⟨((h1.kept hS.2.1).narrow hB).moved hW.alike, ((h2.kept hS.2.1).narrow hB).moved hW.alike, va_Nw.warmM hW h3⟩
abbrev PWX (av : List Value) (D : va_G) (C : Nat → ClassId) (tp sz : Nat) (W0 ro : va_W) : Array Value → State → Prop := va_Pc av (fun U => U.heap.size = sz ∧ va_P D vwCl W0 U.heap ∧ va_K D vwCl (TY C) U ∧ va_D (fun _ => True) W0 ∧ va_P D vwCl ro U.heap ∧ Ap W0 sz ro ∧ Xt tp (va_A W0 sz) U U.heap)
theorem bl_X {D : va_G} {C : Nat → ClassId} {av : List Value} {tp sz : Nat} {W0 ro : va_W} : FrameBlind (PWX av D C tp sz W0 ro) := fun a U g mk q => by
  obtain ⟨q0, q1, qP, qK, qD, qO, qN, q1', q2', q3'⟩ := q
  exact ⟨q0, q1, qP, va_K.moved (u := U) (U := U.calling g mk a) (Vm.Alike.refl U.vm) qK, qD, qO, qN, va_Z.moved (u := U) (U := U.calling g mk a) (Vm.Alike.refl U.vm) q1', va_T.moved (u := U) (U := U.calling g mk a) (Vm.Alike.refl U.vm) q2', va_Nw.same rfl (u := U) (U := U.calling g mk a) rfl q3'⟩
def CalN (own : String) (index : Nat) (y : MethodName) (host : String) (b : ByteArray) (n : Nat) (r : Option FieldType) (k : Nat) : Prop :=
  Cond.code y b n r ∈ lw_g ∧ Cond.initialized y.cls ∈ lw_g ∧ (y.cls ≠ "java/lang/invoke/MethodHandle" ∧ y.cls ≠ "java/lang/invoke/VarHandle" ∧ (parseMethodDescriptor y.desc).map (fun d => d.parameters.length) = some k)
section BASE2
variable {p : Program} {l : Launch} {e : Env} {R : Room} {s : State} {m : MethodId} {args : Array Value} {below : List Frame} {meth : Method} {c : Code} {H : Heap} {locs : List Loc} {cells slots : Nat} {Q : State → Prop} {y0 y : MethodName} {cc b : ByteArray} {nL0 nL k index pc : Nat} {ret0 ret : Option FieldType} {rm : Room} {D : va_G} {C : Nat → ClassId} {ls : Array Slot} {lv : List (Nat × Value)} {As rest st : List Value}
theorem rcSNl {ro : va_W} {o : Int64} {host : String} (hc : Cx p s m args meth c y0 cc nL0 ret0) (kal : CalN y0.cls index y host b nL ret k) (hst9 : Cond.static y ∈ lw_g) (hNw : va_Nw (.methodLinkNest y0.cls index y host) s) (hM : Met l y (wl y b nL ret) rm (PR As D C ro) (vp_Sl (fun r => r = o)) 0 0 (fun _ => False)) (hR : Rm rm R nL 0 0)
    (hP : va_P D vwCl ro H) (hK : va_K D vwCl (TY C) s) (hl : lv_has ls nL0 lv) (hst : st = As.reverse ++ rest) (hn : As.length = k) (hW : (rest.map fun v => v.category).sum ≤ 8) (hs : cells ≤ R.cells ∧ slots ≤ R.slots) (hd : decode cc pc = .ok (.invokestatic index, 3))
    (kk : W p l e R s m args below meth c H locs cells slots Q (F0 m (pc + 3) ls (.long o :: rest))) : W p l e R s m args below meth c H locs cells slots Q (F0 m pc ls st) := by
  subst hst
  refine vp_callSl (va_Run.run (va_runSN (As := As) (rest := rest) ⟨hc.1, hc.2.1, hc.2.2.2.1, hc.2.2.2.2.1, hc.2.2.2.2.2.1⟩ hM ⟨va_cnB k hc.2.2.2.2.2.1 (lw_gi kal.1) rfl hR.1 hR.2.1 hNw (hc.2.2.2.2.2.1 _ kal.2.1) kal.2.2 hR.2.2, hc.2.2.2.2.2.1 _ hst9, trivial⟩ ⟨bl_R, fun U hU hW => ⟨rfl, by rw [hU]; exact hP, va_K.moved hW.alike hK⟩⟩ rfl hn hl.1 rfl (lv_room hW) hd hs)) (fun r hr => ?_)
  subst hr
  exact kk
theorem wcViX {A : Nat → Prop} {ws wc w1 rc : va_W} {h q0 ci tp : Nat} {fs : List Value} {q : vw_C} {o : Int32} (hc : Cx p s m args meth c y0 cc nL0 ret0) (kal : CalV y0.cls index y b nL ret k) (hM : Met l y (wl y b nL ret) rm (PWX (.ref h :: As) D C tp H.size wc rc) (QWi D o w1 (va_A wc H.size)) 0 0 (va_A wc H.size)) (hR : Rm rm R nL 0 0)
    (hP : va_P D vwCl ws H) (hD : va_D A ws) (hS : va_S A s.heap H locs) (hA : ∀ q : Nat, s.heap.size ≤ q → A q) (hK : va_K D vwCl (TY C) s) (isC isR : List Nat) (hC : isC.map (fun i => ws[i]?) = wc.map some) (hRr : isR.all (fun i => (ws[i]?).isSome) = true) (hnC : va_nd isC = true) (hnR : va_nd isR = true) (hdis : ∀ i ∈ isR, i ∉ isC) (hO : va_P D vwCl rc H) (hN : Ap wc H.size rc) (hT : Xt tp A s s.heap)
    (he : wc[q0]? = some (h, .inr (ci, fs))) (hq : vwCl[ci]? = some q) (hy : q.1 = y.cls) (hl : lv_has ls nL0 lv) (hst : st = As.reverse ++ .ref h :: rest) (hn : As.length = k) (hW : (rest.map fun v => v.category).sum ≤ 8) (hs : cells ≤ R.cells ∧ slots ≤ R.slots) (hd : decode cc pc = .ok (.invokevirtual index, 3))
    (kk : ∀ (H1 : Heap) (locs1 : List Loc), va_P D vwCl (isR.filterMap (fun i => ws[i]?) ++ w1) H1 → va_D A (isR.filterMap (fun i => ws[i]?) ++ w1) → va_S A s.heap H1 locs1 → W p l e R s m args below meth c H1 locs1 cells slots Q (F0 m (pc + 3) ls (.int o :: rest))) : W p l e R s m args below meth c H locs cells slots Q (F0 m pc ls st) := by
  subst hst
  have hFc := va_free (wc := wc) hD hS hA isC hC
  have hDc := hD.sub isC hnC hC
  have hPc : va_P D vwCl wc H := by
    intro k q hk
    have h1 : (isC.map (fun i => ws[i]?))[k]? = some (some q) := by rw [hC, List.getElem?_map, hk]; rfl
    rw [List.getElem?_map] at h1
    cases hi : isC[k]? with
    | none => rw [hi] at h1; cases h1
    | some i => rw [hi] at h1; exact hP i q (Option.some.inj h1)
  refine va_calli (va_runV (As := As) (rest := rest) (b := h) (C := y.cls) ⟨hc.1, hc.2.1, hc.2.2.2.1, hc.2.2.2.2.1, hc.2.2.2.2.2.1⟩ hM ⟨cb_of hc.2.2.2.2.2.1 kal.1 hR, hc.2.2.2.2.2.1 _ kal.2.1, hc.2.2.2.2.2.1 _ kal.2.2⟩ ⟨bl_X, hy ▸ va_recv hK hPc hq he, fun U hU hW => ⟨rfl, by rw [hU], by rw [hU]; exact hPc, va_K.moved hW.alike hK, hDc.weaken (fun _ _ _ _ => trivial), by rw [hU]; exact hO, hN, Xt_pass hT hS hFc hU hW⟩⟩ rfl hn hl.1 rfl (lv_room hW) hd hs) hS (fun q _ h => hFc q h) hFc (fun r u t H1 locs1 ht hvm hw hB hz1 hk1 hS1 => ?_)
  obtain ⟨hP1, hD1⟩ := hB
  rw [ht] at hP1
  obtain ⟨hP2, hD2⟩ := va_join (w1 := w1) hP hD isC isR hC (fm_some hRr) hnR hdis hk1 hFc hP1 hD1
  subst hw
  exact kk H1 locs1 hP2 hD2 hS1
theorem wcVlX {A : Nat → Prop} {ws wc w1 rc : va_W} {h q0 ci tp : Nat} {fs : List Value} {q : vw_C} {o : Int64} (hc : Cx p s m args meth c y0 cc nL0 ret0) (kal : CalV y0.cls index y b nL ret k) (hM : Met l y (wl y b nL ret) rm (PWX (.ref h :: As) D C tp H.size wc rc) (QWl D o w1 (va_A wc H.size)) 0 0 (va_A wc H.size)) (hR : Rm rm R nL 0 0)
    (hP : va_P D vwCl ws H) (hD : va_D A ws) (hS : va_S A s.heap H locs) (hA : ∀ q : Nat, s.heap.size ≤ q → A q) (hK : va_K D vwCl (TY C) s) (isC isR : List Nat) (hC : isC.map (fun i => ws[i]?) = wc.map some) (hRr : isR.all (fun i => (ws[i]?).isSome) = true) (hnC : va_nd isC = true) (hnR : va_nd isR = true) (hdis : ∀ i ∈ isR, i ∉ isC) (hO : va_P D vwCl rc H) (hN : Ap wc H.size rc) (hT : Xt tp A s s.heap)
    (he : wc[q0]? = some (h, .inr (ci, fs))) (hq : vwCl[ci]? = some q) (hy : q.1 = y.cls) (hl : lv_has ls nL0 lv) (hst : st = As.reverse ++ .ref h :: rest) (hn : As.length = k) (hW : (rest.map fun v => v.category).sum ≤ 8) (hs : cells ≤ R.cells ∧ slots ≤ R.slots) (hd : decode cc pc = .ok (.invokevirtual index, 3))
    (kk : ∀ (H1 : Heap) (locs1 : List Loc), va_P D vwCl (isR.filterMap (fun i => ws[i]?) ++ w1) H1 → va_D A (isR.filterMap (fun i => ws[i]?) ++ w1) → va_S A s.heap H1 locs1 → W p l e R s m args below meth c H1 locs1 cells slots Q (F0 m (pc + 3) ls (.long o :: rest))) : W p l e R s m args below meth c H locs cells slots Q (F0 m pc ls st) := by
  subst hst
  have hFc := va_free (wc := wc) hD hS hA isC hC
  have hDc := hD.sub isC hnC hC
  have hPc : va_P D vwCl wc H := by
    intro k q hk
    have h1 : (isC.map (fun i => ws[i]?))[k]? = some (some q) := by rw [hC, List.getElem?_map, hk]; rfl
    rw [List.getElem?_map] at h1
    cases hi : isC[k]? with
    | none => rw [hi] at h1; cases h1
    | some i => rw [hi] at h1; exact hP i q (Option.some.inj h1)
  refine va_calll (va_runV (As := As) (rest := rest) (b := h) (C := y.cls) ⟨hc.1, hc.2.1, hc.2.2.2.1, hc.2.2.2.2.1, hc.2.2.2.2.2.1⟩ hM ⟨cb_of hc.2.2.2.2.2.1 kal.1 hR, hc.2.2.2.2.2.1 _ kal.2.1, hc.2.2.2.2.2.1 _ kal.2.2⟩ ⟨bl_X, hy ▸ va_recv hK hPc hq he, fun U hU hW => ⟨rfl, by rw [hU], by rw [hU]; exact hPc, va_K.moved hW.alike hK, hDc.weaken (fun _ _ _ _ => trivial), by rw [hU]; exact hO, hN, Xt_pass hT hS hFc hU hW⟩⟩ rfl hn hl.1 rfl (lv_room hW) hd hs) hS (fun q _ h => hFc q h) hFc (fun r u t H1 locs1 ht hvm hw hB hz1 hk1 hS1 => ?_)
  obtain ⟨hP1, hD1⟩ := hB
  rw [ht] at hP1
  obtain ⟨hP2, hD2⟩ := va_join (w1 := w1) hP hD isC isR hC (fm_some hRr) hnR hdis hk1 hFc hP1 hD1
  subst hw
  exact kk H1 locs1 hP2 hD2 hS1
theorem wcVvX {A : Nat → Prop} {ws wc w1 rc : va_W} {h q0 ci tp : Nat} {fs : List Value} {q : vw_C} (hc : Cx p s m args meth c y0 cc nL0 ret0) (kal : CalV y0.cls index y b nL ret k) (hM : Met l y (wl y b nL ret) rm (PWX (.ref h :: As) D C tp H.size wc rc) (QWv D w1 (va_A wc H.size)) 0 0 (va_A wc H.size)) (hR : Rm rm R nL 0 0)
    (hP : va_P D vwCl ws H) (hD : va_D A ws) (hS : va_S A s.heap H locs) (hA : ∀ q : Nat, s.heap.size ≤ q → A q) (hK : va_K D vwCl (TY C) s) (isC isR : List Nat) (hC : isC.map (fun i => ws[i]?) = wc.map some) (hRr : isR.all (fun i => (ws[i]?).isSome) = true) (hnC : va_nd isC = true) (hnR : va_nd isR = true) (hdis : ∀ i ∈ isR, i ∉ isC) (hO : va_P D vwCl rc H) (hN : Ap wc H.size rc) (hT : Xt tp A s s.heap)
    (he : wc[q0]? = some (h, .inr (ci, fs))) (hq : vwCl[ci]? = some q) (hy : q.1 = y.cls) (hl : lv_has ls nL0 lv) (hst : st = As.reverse ++ .ref h :: rest) (hn : As.length = k) (hW : (rest.map fun v => v.category).sum ≤ 8) (hs : cells ≤ R.cells ∧ slots ≤ R.slots) (hd : decode cc pc = .ok (.invokevirtual index, 3))
    (kk : ∀ (H1 : Heap) (locs1 : List Loc), va_P D vwCl (isR.filterMap (fun i => ws[i]?) ++ w1) H1 → va_D A (isR.filterMap (fun i => ws[i]?) ++ w1) → va_S A s.heap H1 locs1 → W p l e R s m args below meth c H1 locs1 cells slots Q (F0 m (pc + 3) ls rest)) : W p l e R s m args below meth c H locs cells slots Q (F0 m pc ls st) := by
  subst hst
  have hFc := va_free (wc := wc) hD hS hA isC hC
  have hDc := hD.sub isC hnC hC
  have hPc : va_P D vwCl wc H := by
    intro k q hk
    have h1 : (isC.map (fun i => ws[i]?))[k]? = some (some q) := by rw [hC, List.getElem?_map, hk]; rfl
    rw [List.getElem?_map] at h1
    cases hi : isC[k]? with
    | none => rw [hi] at h1; cases h1
    | some i => rw [hi] at h1; exact hP i q (Option.some.inj h1)
  refine va_callv (va_runV (As := As) (rest := rest) (b := h) (C := y.cls) ⟨hc.1, hc.2.1, hc.2.2.2.1, hc.2.2.2.2.1, hc.2.2.2.2.2.1⟩ hM ⟨cb_of hc.2.2.2.2.2.1 kal.1 hR, hc.2.2.2.2.2.1 _ kal.2.1, hc.2.2.2.2.2.1 _ kal.2.2⟩ ⟨bl_X, hy ▸ va_recv hK hPc hq he, fun U hU hW => ⟨rfl, by rw [hU], by rw [hU]; exact hPc, va_K.moved hW.alike hK, hDc.weaken (fun _ _ _ _ => trivial), by rw [hU]; exact hO, hN, Xt_pass hT hS hFc hU hW⟩⟩ rfl hn hl.1 rfl (lv_room hW) hd hs) hS (fun q _ h => hFc q h) hFc (fun u t H1 locs1 ht hvm hw hB hz1 hk1 hS1 => ?_)
  obtain ⟨hP1, hD1⟩ := hB
  rw [ht] at hP1
  obtain ⟨hP2, hD2⟩ := va_join (w1 := w1) hP hD isC isR hC (fm_some hRr) hnR hdis hk1 hFc hP1 hD1
  exact kk H1 locs1 hP2 hD2 hS1
end BASE2

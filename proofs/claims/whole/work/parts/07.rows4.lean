section BASE4
variable {p : Program} {l : Launch} {e : Env} {R : Room} {s : State} {m : MethodId} {args : Array Value} {below : List Frame} {meth : Method} {c : Code} {H : Heap} {locs : List Loc} {cells slots : Nat} {Q : State → Prop} {y0 y : MethodName} {cc b : ByteArray} {nL0 nL k index pc : Nat} {ret0 ret : Option FieldType} {rm : Room} {D : va_G} {C : Nat → ClassId} {ls : Array Slot} {lv : List (Nat × Value)} {As rest st : List Value}
theorem wcFi {A : Nat → Prop} {ws wc w1 rc : va_W} {h q0 ci : Nat} {fs : List Value} {q : vw_C} {o : Int32} (hc : Cx p s m args meth c y0 cc nL0 ret0) (kal : CalV y0.cls index y b nL ret k) (hM : Met l y (wl y b nL ret) rm (PW (.ref h :: As) D C H.size wc rc) (QWi D o w1 (va_A wc H.size)) 0 0 (va_A wc H.size)) (hR : Rm rm R nL 0 0)
    (hP : va_P D vwCl ws H) (hD : va_D A ws) (hS : va_S A s.heap H locs) (hA : ∀ q : Nat, s.heap.size ≤ q → A q) (hK : va_K D vwCl (TY C) s) (isC isR : List Nat) (hC : isC.map (fun i => ws[i]?) = wc.map some) (hRr : isR.all (fun i => (ws[i]?).isSome) = true) (hnC : va_nd isC = true) (hnR : va_nd isR = true) (hdis : ∀ i ∈ isR, i ∉ isC) (hO : va_P D vwCl rc H) (hN : Ap wc H.size rc)
    (he : wc[q0]? = some (h, .inr (ci, fs))) (hq : vwCl[ci]? = some q) (hy : q.1 = y.cls) (hl : lv_has ls nL0 lv) (hst : st = As.reverse ++ .ref h :: rest) (hn : As.length = k) (hW : (rest.map fun v => v.category).sum ≤ 8) (hs : cells ≤ R.cells ∧ slots ≤ R.slots) (hd : decode cc pc = .ok (.invokevirtual index, 3))
    (kk : ∀ (H1 : Heap) (locs1 : List Loc), va_P D vwCl (isR.filterMap (fun i => ws[i]?) ++ w1) H1 → va_D A (isR.filterMap (fun i => ws[i]?) ++ w1) → va_S A s.heap H1 locs1 → (∀ q : Nat, q < H.size → ¬ va_A wc H.size q → H1[q]? = H[q]?) → H.size ≤ H1.size → W p l e R s m args below meth c H1 locs1 cells slots Q (F0 m (pc + 3) ls (.int o :: rest))) : W p l e R s m args below meth c H locs cells slots Q (F0 m pc ls st) := by
  subst hst
  have hFc := va_free (wc := wc) hD hS hA isC hC
  have hDc := hD.sub isC hnC hC
  have hPc : va_P D vwCl wc H := by
    intro k q hk
    have h1 : (isC.map (fun i => ws[i]?))[k]? = some (some q) := by rw [hC, List.getElem?_map, hk]; rfl
    rw [List.getElem?_map] at h1
    cases hi : isC[k]? with
    | none => rw [hi] at h1; cases h1
    | some i => rw [hi] at h1; exact hP i q (Option.some.inj h1)
  refine va_calli (va_runV (As := As) (rest := rest) (b := h) (C := y.cls) ⟨hc.1, hc.2.1, hc.2.2.2.1, hc.2.2.2.2.1, hc.2.2.2.2.2.1⟩ hM ⟨cb_of hc.2.2.2.2.2.1 kal.1 hR, hc.2.2.2.2.2.1 _ kal.2.1, hc.2.2.2.2.2.1 _ kal.2.2⟩ ⟨bl_W, hy ▸ va_recv hK hPc hq he, fun U hU hW => ⟨rfl, by rw [hU], by rw [hU]; exact hPc, va_K.moved hW.alike hK, hDc.weaken (fun _ _ _ _ => trivial), by rw [hU]; exact hO, hN⟩⟩ rfl hn hl.1 rfl (lv_room hW) hd hs) hS (fun q _ h => hFc q h) hFc (fun r u t H1 locs1 ht hvm hw hB hz1 hk1 hS1 => ?_)
  obtain ⟨hP1, hD1⟩ := hB
  rw [ht] at hP1
  obtain ⟨hP2, hD2⟩ := va_join (w1 := w1) hP hD isC isR hC (fm_some hRr) hnR hdis hk1 hFc hP1 hD1
  subst hw
  exact kk H1 locs1 hP2 hD2 hS1 hk1 hz1
theorem wcFl {A : Nat → Prop} {ws wc w1 rc : va_W} {h q0 ci : Nat} {fs : List Value} {q : vw_C} {o : Int64} (hc : Cx p s m args meth c y0 cc nL0 ret0) (kal : CalV y0.cls index y b nL ret k) (hM : Met l y (wl y b nL ret) rm (PW (.ref h :: As) D C H.size wc rc) (QWl D o w1 (va_A wc H.size)) 0 0 (va_A wc H.size)) (hR : Rm rm R nL 0 0)
    (hP : va_P D vwCl ws H) (hD : va_D A ws) (hS : va_S A s.heap H locs) (hA : ∀ q : Nat, s.heap.size ≤ q → A q) (hK : va_K D vwCl (TY C) s) (isC isR : List Nat) (hC : isC.map (fun i => ws[i]?) = wc.map some) (hRr : isR.all (fun i => (ws[i]?).isSome) = true) (hnC : va_nd isC = true) (hnR : va_nd isR = true) (hdis : ∀ i ∈ isR, i ∉ isC) (hO : va_P D vwCl rc H) (hN : Ap wc H.size rc)
    (he : wc[q0]? = some (h, .inr (ci, fs))) (hq : vwCl[ci]? = some q) (hy : q.1 = y.cls) (hl : lv_has ls nL0 lv) (hst : st = As.reverse ++ .ref h :: rest) (hn : As.length = k) (hW : (rest.map fun v => v.category).sum ≤ 8) (hs : cells ≤ R.cells ∧ slots ≤ R.slots) (hd : decode cc pc = .ok (.invokevirtual index, 3))
    (kk : ∀ (H1 : Heap) (locs1 : List Loc), va_P D vwCl (isR.filterMap (fun i => ws[i]?) ++ w1) H1 → va_D A (isR.filterMap (fun i => ws[i]?) ++ w1) → va_S A s.heap H1 locs1 → (∀ q : Nat, q < H.size → ¬ va_A wc H.size q → H1[q]? = H[q]?) → H.size ≤ H1.size → W p l e R s m args below meth c H1 locs1 cells slots Q (F0 m (pc + 3) ls (.long o :: rest))) : W p l e R s m args below meth c H locs cells slots Q (F0 m pc ls st) := by
  subst hst
  have hFc := va_free (wc := wc) hD hS hA isC hC
  have hDc := hD.sub isC hnC hC
  have hPc : va_P D vwCl wc H := by
    intro k q hk
    have h1 : (isC.map (fun i => ws[i]?))[k]? = some (some q) := by rw [hC, List.getElem?_map, hk]; rfl
    rw [List.getElem?_map] at h1
    cases hi : isC[k]? with
    | none => rw [hi] at h1; cases h1
    | some i => rw [hi] at h1; exact hP i q (Option.some.inj h1)
  refine va_calll (va_runV (As := As) (rest := rest) (b := h) (C := y.cls) ⟨hc.1, hc.2.1, hc.2.2.2.1, hc.2.2.2.2.1, hc.2.2.2.2.2.1⟩ hM ⟨cb_of hc.2.2.2.2.2.1 kal.1 hR, hc.2.2.2.2.2.1 _ kal.2.1, hc.2.2.2.2.2.1 _ kal.2.2⟩ ⟨bl_W, hy ▸ va_recv hK hPc hq he, fun U hU hW => ⟨rfl, by rw [hU], by rw [hU]; exact hPc, va_K.moved hW.alike hK, hDc.weaken (fun _ _ _ _ => trivial), by rw [hU]; exact hO, hN⟩⟩ rfl hn hl.1 rfl (lv_room hW) hd hs) hS (fun q _ h => hFc q h) hFc (fun r u t H1 locs1 ht hvm hw hB hz1 hk1 hS1 => ?_)
  obtain ⟨hP1, hD1⟩ := hB
  rw [ht] at hP1
  obtain ⟨hP2, hD2⟩ := va_join (w1 := w1) hP hD isC isR hC (fm_some hRr) hnR hdis hk1 hFc hP1 hD1
  subst hw
  exact kk H1 locs1 hP2 hD2 hS1 hk1 hz1
theorem wcFiX {A : Nat → Prop} {ws wc w1 rc : va_W} {h q0 ci tp : Nat} {fs : List Value} {q : vw_C} {o : Int32} (hc : Cx p s m args meth c y0 cc nL0 ret0) (kal : CalV y0.cls index y b nL ret k) (hM : Met l y (wl y b nL ret) rm (PWX (.ref h :: As) D C tp H.size wc rc) (QWi D o w1 (va_A wc H.size)) 0 0 (va_A wc H.size)) (hR : Rm rm R nL 0 0)
    (hP : va_P D vwCl ws H) (hD : va_D A ws) (hS : va_S A s.heap H locs) (hA : ∀ q : Nat, s.heap.size ≤ q → A q) (hK : va_K D vwCl (TY C) s) (isC isR : List Nat) (hC : isC.map (fun i => ws[i]?) = wc.map some) (hRr : isR.all (fun i => (ws[i]?).isSome) = true) (hnC : va_nd isC = true) (hnR : va_nd isR = true) (hdis : ∀ i ∈ isR, i ∉ isC) (hO : va_P D vwCl rc H) (hN : Ap wc H.size rc) (hT : Xt tp A s s.heap)
    (he : wc[q0]? = some (h, .inr (ci, fs))) (hq : vwCl[ci]? = some q) (hy : q.1 = y.cls) (hl : lv_has ls nL0 lv) (hst : st = As.reverse ++ .ref h :: rest) (hn : As.length = k) (hW : (rest.map fun v => v.category).sum ≤ 8) (hs : cells ≤ R.cells ∧ slots ≤ R.slots) (hd : decode cc pc = .ok (.invokevirtual index, 3))
    (kk : ∀ (H1 : Heap) (locs1 : List Loc), va_P D vwCl (isR.filterMap (fun i => ws[i]?) ++ w1) H1 → va_D A (isR.filterMap (fun i => ws[i]?) ++ w1) → va_S A s.heap H1 locs1 → (∀ q : Nat, q < H.size → ¬ va_A wc H.size q → H1[q]? = H[q]?) → H.size ≤ H1.size → W p l e R s m args below meth c H1 locs1 cells slots Q (F0 m (pc + 3) ls (.int o :: rest))) : W p l e R s m args below meth c H locs cells slots Q (F0 m pc ls st) := by
  subst hst
  have hFc := va_free (wc := wc) hD hS hA isC hC
  have hDc := hD.sub isC hnC hC
  have hPc : va_P D vwCl wc H := by
    intro k q hk
    have h1 : (isC.map (fun i => ws[i]?))[k]? = some (some q) := by rw [hC, List.getElem?_map, hk]; rfl
    rw [List.getElem?_map] at h1
    cases hi : isC[k]? with
    | none => rw [hi] at h1; cases h1
    | some i => rw [hi] at h1; exact hP i q (Option.some.inj h1)
  refine va_calli (va_runV (As := As) (rest := rest) (b := h) (C := y.cls) ⟨hc.1, hc.2.1, hc.2.2.2.1, hc.2.2.2.2.1, hc.2.2.2.2.2.1⟩ hM ⟨cb_of hc.2.2.2.2.2.1 kal.1 hR, hc.2.2.2.2.2.1 _ kal.2.1, hc.2.2.2.2.2.1 _ kal.2.2⟩ ⟨bl_X, hy ▸ va_recv hK hPc hq he, fun U hU hW => ⟨rfl, by rw [hU], by rw [hU]; exact hPc, va_K.moved hW.alike hK, hDc.weaken (fun _ _ _ _ => trivial), by rw [hU]; exact hO, hN, Xt_pass hT hS hFc hU hW⟩⟩ rfl hn hl.1 rfl (lv_room hW) hd hs) hS (fun q _ h => hFc q h) hFc (fun r u t H1 locs1 ht hvm hw hB hz1 hk1 hS1 => ?_)
  obtain ⟨hP1, hD1⟩ := hB
  rw [ht] at hP1
  obtain ⟨hP2, hD2⟩ := va_join (w1 := w1) hP hD isC isR hC (fm_some hRr) hnR hdis hk1 hFc hP1 hD1
  subst hw
  exact kk H1 locs1 hP2 hD2 hS1 hk1 hz1
theorem wcFlX {A : Nat → Prop} {ws wc w1 rc : va_W} {h q0 ci tp : Nat} {fs : List Value} {q : vw_C} {o : Int64} (hc : Cx p s m args meth c y0 cc nL0 ret0) (kal : CalV y0.cls index y b nL ret k) (hM : Met l y (wl y b nL ret) rm (PWX (.ref h :: As) D C tp H.size wc rc) (QWl D o w1 (va_A wc H.size)) 0 0 (va_A wc H.size)) (hR : Rm rm R nL 0 0)
    (hP : va_P D vwCl ws H) (hD : va_D A ws) (hS : va_S A s.heap H locs) (hA : ∀ q : Nat, s.heap.size ≤ q → A q) (hK : va_K D vwCl (TY C) s) (isC isR : List Nat) (hC : isC.map (fun i => ws[i]?) = wc.map some) (hRr : isR.all (fun i => (ws[i]?).isSome) = true) (hnC : va_nd isC = true) (hnR : va_nd isR = true) (hdis : ∀ i ∈ isR, i ∉ isC) (hO : va_P D vwCl rc H) (hN : Ap wc H.size rc) (hT : Xt tp A s s.heap)
    (he : wc[q0]? = some (h, .inr (ci, fs))) (hq : vwCl[ci]? = some q) (hy : q.1 = y.cls) (hl : lv_has ls nL0 lv) (hst : st = As.reverse ++ .ref h :: rest) (hn : As.length = k) (hW : (rest.map fun v => v.category).sum ≤ 8) (hs : cells ≤ R.cells ∧ slots ≤ R.slots) (hd : decode cc pc = .ok (.invokevirtual index, 3))
    (kk : ∀ (H1 : Heap) (locs1 : List Loc), va_P D vwCl (isR.filterMap (fun i => ws[i]?) ++ w1) H1 → va_D A (isR.filterMap (fun i => ws[i]?) ++ w1) → va_S A s.heap H1 locs1 → (∀ q : Nat, q < H.size → ¬ va_A wc H.size q → H1[q]? = H[q]?) → H.size ≤ H1.size → W p l e R s m args below meth c H1 locs1 cells slots Q (F0 m (pc + 3) ls (.long o :: rest))) : W p l e R s m args below meth c H locs cells slots Q (F0 m pc ls st) := by
  subst hst
  have hFc := va_free (wc := wc) hD hS hA isC hC
  have hDc := hD.sub isC hnC hC
  have hPc : va_P D vwCl wc H := by
    intro k q hk
    have h1 : (isC.map (fun i => ws[i]?))[k]? = some (some q) := by rw [hC, List.getElem?_map, hk]; rfl
    rw [List.getElem?_map] at h1
    cases hi : isC[k]? with
    | none => rw [hi] at h1; cases h1
    | some i => rw [hi] at h1; exact hP i q (Option.some.inj h1)
  refine va_calll (va_runV (As := As) (rest := rest) (b := h) (C := y.cls) ⟨hc.1, hc.2.1, hc.2.2.2.1, hc.2.2.2.2.1, hc.2.2.2.2.2.1⟩ hM ⟨cb_of hc.2.2.2.2.2.1 kal.1 hR, hc.2.2.2.2.2.1 _ kal.2.1, hc.2.2.2.2.2.1 _ kal.2.2⟩ ⟨bl_X, hy ▸ va_recv hK hPc hq he, fun U hU hW => ⟨rfl, by rw [hU], by rw [hU]; exact hPc, va_K.moved hW.alike hK, hDc.weaken (fun _ _ _ _ => trivial), by rw [hU]; exact hO, hN, Xt_pass hT hS hFc hU hW⟩⟩ rfl hn hl.1 rfl (lv_room hW) hd hs) hS (fun q _ h => hFc q h) hFc (fun r u t H1 locs1 ht hvm hw hB hz1 hk1 hS1 => ?_)
  obtain ⟨hP1, hD1⟩ := hB
  rw [ht] at hP1
  obtain ⟨hP2, hD2⟩ := va_join (w1 := w1) hP hD isC isR hC (fm_some hRr) hnR hdis hk1 hFc hP1 hD1
  subst hw
  exact kk H1 locs1 hP2 hD2 hS1 hk1 hz1
theorem wcGi {mc ms : Nat} {A : Nat → Prop} {ws wc rc : va_W} {w1 : (Nat → Nat) → va_W} {h q0 ci : Nat} {fs : List Value} {q : vw_C} {o : Int32} (hc : Cx p s m args meth c y0 cc nL0 ret0) (kal : CalV y0.cls index y b nL ret k) (hM : Met l y (wl y b nL ret) rm (PW (.ref h :: As) D C H.size wc rc) (QAi D o w1 (va_A wc H.size)) mc ms (va_A wc H.size)) (hR : Rm rm R nL mc ms)
    (hP : va_P D vwCl ws H) (hD : va_D A ws) (hS : va_S A s.heap H locs) (hA : ∀ q : Nat, s.heap.size ≤ q → A q) (hK : va_K D vwCl (TY C) s) (isC isR : List Nat) (hC : isC.map (fun i => ws[i]?) = wc.map some) (hRr : isR.all (fun i => (ws[i]?).isSome) = true) (hnC : va_nd isC = true) (hnR : va_nd isR = true) (hdis : ∀ i ∈ isR, i ∉ isC) (hO : va_P D vwCl rc H) (hN : Ap wc H.size rc)
    (he : wc[q0]? = some (h, .inr (ci, fs))) (hq : vwCl[ci]? = some q) (hy : q.1 = y.cls) (hl : lv_has ls nL0 lv) (hst : st = As.reverse ++ .ref h :: rest) (hn : As.length = k) (hW : (rest.map fun v => v.category).sum ≤ 8) (hs : cells + mc ≤ R.cells ∧ slots + ms ≤ R.slots) (hd : decode cc pc = .ok (.invokevirtual index, 3))
    (kk : ∀ (u : Nat → Nat) (H1 : Heap) (locs1 : List Loc), va_P D vwCl (isR.filterMap (fun i => ws[i]?) ++ w1 u) H1 → va_D A (isR.filterMap (fun i => ws[i]?) ++ w1 u) → va_S A s.heap H1 locs1 → (∀ q : Nat, q < H.size → ¬ va_A wc H.size q → H1[q]? = H[q]?) → H.size ≤ H1.size → va_D (va_A wc H.size) (w1 u) → W p l e R s m args below meth c H1 locs1 (cells + mc) (slots + ms) Q (F0 m (pc + 3) ls (.int o :: rest))) : W p l e R s m args below meth c H locs cells slots Q (F0 m pc ls st) := by
  subst hst
  have hFc := va_free (wc := wc) hD hS hA isC hC
  have hDc := hD.sub isC hnC hC
  have hPc : va_P D vwCl wc H := by
    intro k q hk
    have h1 : (isC.map (fun i => ws[i]?))[k]? = some (some q) := by rw [hC, List.getElem?_map, hk]; rfl
    rw [List.getElem?_map] at h1
    cases hi : isC[k]? with
    | none => rw [hi] at h1; cases h1
    | some i => rw [hi] at h1; exact hP i q (Option.some.inj h1)
  refine va_calli (va_runV (As := As) (rest := rest) (b := h) (C := y.cls) ⟨hc.1, hc.2.1, hc.2.2.2.1, hc.2.2.2.2.1, hc.2.2.2.2.2.1⟩ hM ⟨cb_of hc.2.2.2.2.2.1 kal.1 hR, hc.2.2.2.2.2.1 _ kal.2.1, hc.2.2.2.2.2.1 _ kal.2.2⟩ ⟨bl_W, hy ▸ va_recv hK hPc hq he, fun U hU hW => ⟨rfl, by rw [hU], by rw [hU]; exact hPc, va_K.moved hW.alike hK, hDc.weaken (fun _ _ _ _ => trivial), by rw [hU]; exact hO, hN⟩⟩ rfl hn hl.1 rfl (lv_room hW) hd hs) hS (fun q _ h => hFc q h) hFc (fun r u t H1 locs1 ht hvm hw hB hz1 hk1 hS1 => ?_)
  obtain ⟨hP1, hD1⟩ := hB
  rw [ht] at hP1
  obtain ⟨hP2, hD2⟩ := va_join hP hD isC isR hC (fm_some hRr) hnR hdis hk1 hFc hP1 hD1
  subst hw
  exact kk u H1 locs1 hP2 hD2 hS1 hk1 hz1 hD1
theorem wcGl {mc ms : Nat} {A : Nat → Prop} {ws wc rc : va_W} {w1 : (Nat → Nat) → va_W} {h q0 ci : Nat} {fs : List Value} {q : vw_C} {o : Int64} (hc : Cx p s m args meth c y0 cc nL0 ret0) (kal : CalV y0.cls index y b nL ret k) (hM : Met l y (wl y b nL ret) rm (PW (.ref h :: As) D C H.size wc rc) (QAl D o w1 (va_A wc H.size)) mc ms (va_A wc H.size)) (hR : Rm rm R nL mc ms)
    (hP : va_P D vwCl ws H) (hD : va_D A ws) (hS : va_S A s.heap H locs) (hA : ∀ q : Nat, s.heap.size ≤ q → A q) (hK : va_K D vwCl (TY C) s) (isC isR : List Nat) (hC : isC.map (fun i => ws[i]?) = wc.map some) (hRr : isR.all (fun i => (ws[i]?).isSome) = true) (hnC : va_nd isC = true) (hnR : va_nd isR = true) (hdis : ∀ i ∈ isR, i ∉ isC) (hO : va_P D vwCl rc H) (hN : Ap wc H.size rc)
    (he : wc[q0]? = some (h, .inr (ci, fs))) (hq : vwCl[ci]? = some q) (hy : q.1 = y.cls) (hl : lv_has ls nL0 lv) (hst : st = As.reverse ++ .ref h :: rest) (hn : As.length = k) (hW : (rest.map fun v => v.category).sum ≤ 8) (hs : cells + mc ≤ R.cells ∧ slots + ms ≤ R.slots) (hd : decode cc pc = .ok (.invokevirtual index, 3))
    (kk : ∀ (u : Nat → Nat) (H1 : Heap) (locs1 : List Loc), va_P D vwCl (isR.filterMap (fun i => ws[i]?) ++ w1 u) H1 → va_D A (isR.filterMap (fun i => ws[i]?) ++ w1 u) → va_S A s.heap H1 locs1 → (∀ q : Nat, q < H.size → ¬ va_A wc H.size q → H1[q]? = H[q]?) → H.size ≤ H1.size → va_D (va_A wc H.size) (w1 u) → W p l e R s m args below meth c H1 locs1 (cells + mc) (slots + ms) Q (F0 m (pc + 3) ls (.long o :: rest))) : W p l e R s m args below meth c H locs cells slots Q (F0 m pc ls st) := by
  subst hst
  have hFc := va_free (wc := wc) hD hS hA isC hC
  have hDc := hD.sub isC hnC hC
  have hPc : va_P D vwCl wc H := by
    intro k q hk
    have h1 : (isC.map (fun i => ws[i]?))[k]? = some (some q) := by rw [hC, List.getElem?_map, hk]; rfl
    rw [List.getElem?_map] at h1
    cases hi : isC[k]? with
    | none => rw [hi] at h1; cases h1
    | some i => rw [hi] at h1; exact hP i q (Option.some.inj h1)
  refine va_calll (va_runV (As := As) (rest := rest) (b := h) (C := y.cls) ⟨hc.1, hc.2.1, hc.2.2.2.1, hc.2.2.2.2.1, hc.2.2.2.2.2.1⟩ hM ⟨cb_of hc.2.2.2.2.2.1 kal.1 hR, hc.2.2.2.2.2.1 _ kal.2.1, hc.2.2.2.2.2.1 _ kal.2.2⟩ ⟨bl_W, hy ▸ va_recv hK hPc hq he, fun U hU hW => ⟨rfl, by rw [hU], by rw [hU]; exact hPc, va_K.moved hW.alike hK, hDc.weaken (fun _ _ _ _ => trivial), by rw [hU]; exact hO, hN⟩⟩ rfl hn hl.1 rfl (lv_room hW) hd hs) hS (fun q _ h => hFc q h) hFc (fun r u t H1 locs1 ht hvm hw hB hz1 hk1 hS1 => ?_)
  obtain ⟨hP1, hD1⟩ := hB
  rw [ht] at hP1
  obtain ⟨hP2, hD2⟩ := va_join hP hD isC isR hC (fm_some hRr) hnR hdis hk1 hFc hP1 hD1
  subst hw
  exact kk u H1 locs1 hP2 hD2 hS1 hk1 hz1 hD1
theorem wcGlX {mc ms : Nat} {A : Nat → Prop} {ws wc rc : va_W} {w1 : (Nat → Nat) → va_W} {h q0 ci tp : Nat} {fs : List Value} {q : vw_C} {o : Int64} (hc : Cx p s m args meth c y0 cc nL0 ret0) (kal : CalV y0.cls index y b nL ret k) (hM : Met l y (wl y b nL ret) rm (PWX (.ref h :: As) D C tp H.size wc rc) (QAl D o w1 (va_A wc H.size)) mc ms (va_A wc H.size)) (hR : Rm rm R nL mc ms)
    (hP : va_P D vwCl ws H) (hD : va_D A ws) (hS : va_S A s.heap H locs) (hA : ∀ q : Nat, s.heap.size ≤ q → A q) (hK : va_K D vwCl (TY C) s) (isC isR : List Nat) (hC : isC.map (fun i => ws[i]?) = wc.map some) (hRr : isR.all (fun i => (ws[i]?).isSome) = true) (hnC : va_nd isC = true) (hnR : va_nd isR = true) (hdis : ∀ i ∈ isR, i ∉ isC) (hO : va_P D vwCl rc H) (hN : Ap wc H.size rc) (hT : Xt tp A s s.heap)
    (he : wc[q0]? = some (h, .inr (ci, fs))) (hq : vwCl[ci]? = some q) (hy : q.1 = y.cls) (hl : lv_has ls nL0 lv) (hst : st = As.reverse ++ .ref h :: rest) (hn : As.length = k) (hW : (rest.map fun v => v.category).sum ≤ 8) (hs : cells + mc ≤ R.cells ∧ slots + ms ≤ R.slots) (hd : decode cc pc = .ok (.invokevirtual index, 3))
    (kk : ∀ (u : Nat → Nat) (H1 : Heap) (locs1 : List Loc), va_P D vwCl (isR.filterMap (fun i => ws[i]?) ++ w1 u) H1 → va_D A (isR.filterMap (fun i => ws[i]?) ++ w1 u) → va_S A s.heap H1 locs1 → (∀ q : Nat, q < H.size → ¬ va_A wc H.size q → H1[q]? = H[q]?) → H.size ≤ H1.size → va_D (va_A wc H.size) (w1 u) → W p l e R s m args below meth c H1 locs1 (cells + mc) (slots + ms) Q (F0 m (pc + 3) ls (.long o :: rest))) : W p l e R s m args below meth c H locs cells slots Q (F0 m pc ls st) := by
  subst hst
  have hFc := va_free (wc := wc) hD hS hA isC hC
  have hDc := hD.sub isC hnC hC
  have hPc : va_P D vwCl wc H := by
    intro k q hk
    have h1 : (isC.map (fun i => ws[i]?))[k]? = some (some q) := by rw [hC, List.getElem?_map, hk]; rfl
    rw [List.getElem?_map] at h1
    cases hi : isC[k]? with
    | none => rw [hi] at h1; cases h1
    | some i => rw [hi] at h1; exact hP i q (Option.some.inj h1)
  refine va_calll (va_runV (As := As) (rest := rest) (b := h) (C := y.cls) ⟨hc.1, hc.2.1, hc.2.2.2.1, hc.2.2.2.2.1, hc.2.2.2.2.2.1⟩ hM ⟨cb_of hc.2.2.2.2.2.1 kal.1 hR, hc.2.2.2.2.2.1 _ kal.2.1, hc.2.2.2.2.2.1 _ kal.2.2⟩ ⟨bl_X, hy ▸ va_recv hK hPc hq he, fun U hU hW => ⟨rfl, by rw [hU], by rw [hU]; exact hPc, va_K.moved hW.alike hK, hDc.weaken (fun _ _ _ _ => trivial), by rw [hU]; exact hO, hN, Xt_pass hT hS hFc hU hW⟩⟩ rfl hn hl.1 rfl (lv_room hW) hd hs) hS (fun q _ h => hFc q h) hFc (fun r u t H1 locs1 ht hvm hw hB hz1 hk1 hS1 => ?_)
  obtain ⟨hP1, hD1⟩ := hB
  rw [ht] at hP1
  obtain ⟨hP2, hD2⟩ := va_join hP hD isC isR hC (fm_some hRr) hnR hdis hk1 hFc hP1 hD1
  subst hw
  exact kk u H1 locs1 hP2 hD2 hS1 hk1 hz1 hD1
end BASE4
/-- cells beside a world: they hold, and aren't the world's -/
def Fr (D : va_G) (ws fr : va_W) (H : Heap) : Prop := va_P D vwCl fr H ∧ ∀ q ∈ fr, ∀ (k : Nat) (e : va_E), ws[k]? ≠ some (q.1, e)
theorem Fr_ap {D : va_G} {ws wc fr : va_W} {H : Heap} (h : Fr D ws fr H) (isC : List Nat) (hC : isC.map (fun i => ws[i]?) = wc.map some) : Ap wc H.size fr := by
  intro q hq hA
  obtain ⟨k, hk⟩ := List.mem_iff_getElem?.mp hq
  rcases hA with ⟨k2, e, h2⟩ | h2
  · have h1 : (isC.map (fun i => ws[i]?))[k2]? = some (some (q.1, e)) := by rw [hC, List.getElem?_map, h2]; rfl
    rw [List.getElem?_map] at h1
    cases hj : isC[k2]? with
    | none => rw [hj] at h1; cases h1
    | some j => rw [hj] at h1; exact h.2 q hq j e (Option.some.inj h1)
  · have := (h.1 k q hk).lt
    omega
theorem Fr_keep {D : va_G} {ws wc fr : va_W} {H H1 : Heap} (h : Fr D ws fr H) (isC : List Nat) (hC : isC.map (fun i => ws[i]?) = wc.map some) (hk : ∀ q : Nat, q < H.size → ¬ va_A wc H.size q → H1[q]? = H[q]?) : va_P D vwCl fr H1 :=
  h.1.kept (fun k q hq => hk q.1 (h.1 k q hq).lt (Fr_ap h isC hC q (List.mem_of_getElem? hq)))
/-- the world's addresses stay, so what is beside it stays beside it -/
theorem Fr_same {D : va_G} {ws ws2 fr : va_W} {H H1 : Heap} (h : Fr D ws fr H) (hP : va_P D vwCl fr H1) (he : ws2.map (fun q => q.1) = ws.map (fun q => q.1)) : Fr D ws2 fr H1 := by
  refine ⟨hP, fun q hq k e hk => ?_⟩
  have h1 : (ws2.map (fun q => q.1))[k]? = some q.1 := by rw [List.getElem?_map, hk]; rfl
  rw [he, List.getElem?_map] at h1
  cases hw : ws[k]? with
  | none => rw [hw] at h1; cases h1
  | some z =>
    rw [hw] at h1
    have hz : z.1 = q.1 := Option.some.inj h1
    exact h.2 q hq k z.2 (by rw [hw, ← hz])

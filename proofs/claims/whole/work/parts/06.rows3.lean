abbrev QAi (D : va_G) (o : Int32) (W1 : (Nat → Nat) → va_W) (A : Nat → Prop) : Array Value → State → Outcome → State → Prop := va_Qi (fun r (_ : Nat → Nat) => r = o) (fun u t => va_P D vwCl (W1 u) t.heap ∧ va_D A (W1 u)) A
abbrev QAl (D : va_G) (o : Int64) (W1 : (Nat → Nat) → va_W) (A : Nat → Prop) : Array Value → State → Outcome → State → Prop := va_Ql (fun r (_ : Nat → Nat) => r = o) (fun u t => va_P D vwCl (W1 u) t.heap ∧ va_D A (W1 u)) A
abbrev QAv (D : va_G) (W1 : (Nat → Nat) → va_W) (A : Nat → Prop) : Array Value → State → Outcome → State → Prop := va_Qv (fun (_ : Nat → Nat) => True) (fun u t => va_P D vwCl (W1 u) t.heap ∧ va_D A (W1 u)) A
theorem kq {D : va_G} {C : Nat → ClassId} {s : State} {cA : ClassId} {ty : FieldType} (i : Nat) (hi : (TY C)[i]? = some (C i, ty)) (hty : ∀ x, ty ≠ .object x) (h : va_K D vwCl (TY C ++ [(cA, ty)]) s) : cA = C i := by
  have h1 := (h.2 5 (cA, ty) rfl).2
  have h2 := (h.2 i (C i, ty) (by rw [List.getElem?_append_left (by have := (List.getElem?_eq_some_iff.mp hi).1; exact this)]; exact hi)).2
  cases ty with
  | object x => exact absurd rfl (hty x)
  | _ => exact Option.some.inj (Eq.trans (Eq.symm h1) h2)
theorem kqG {D : va_G} {C : Nat → ClassId} {s : State} {cA : ClassId} (h : va_K D vwCl (TY C ++ [(cA, .object "HexWorkbench$Game")]) s) : cA = C 4 := by
  obtain ⟨kA, comp, -, -, -, h1⟩ := (h.2 5 (cA, .object "HexWorkbench$Game") rfl).2
  obtain ⟨kB, comp2, -, -, -, h2⟩ := (h.2 4 (C 4, .object "HexWorkbench$Game") rfl).2
  exact Option.some.inj (Eq.trans (Eq.symm h1) h2)
section BASE3
variable {p : Program} {l : Launch} {e : Env} {R : Room} {s : State} {m : MethodId} {args : Array Value} {below : List Frame} {meth : Method} {c : Code} {H : Heap} {locs : List Loc} {cells slots : Nat} {Q : State → Prop} {y0 y : MethodName} {cc b : ByteArray} {nL0 nL k index pc : Nat} {ret0 ret : Option FieldType} {rm : Room} {D : va_G} {C : Nat → ClassId} {ls : Array Slot} {lv : List (Nat × Value)} {As rest st : List Value}
theorem nwI {A : Nat → Prop} {ws : va_W} {H0 : Heap} (hexec : p.tables.exec = Jvm.exec) (hb : c.code = cc) (harr : (Cond.arrayClass .int).before args s = true) (hK : va_K D vwCl (TY C) s) (hP : va_P D vwCl ws H) (hD : va_D A ws) (hS : va_S A H0 H locs) (hA : ∀ q, H0.size ≤ q → A q)
    {n : Int32} (N' : Nat) (hn : ¬ n < 0) (hN : n.toNatClampNeg = N') (hbytes : N' * componentBytes .int ≤ 536870912) (hcells : cells + 1 ≤ R.cells) (hslots : slots + N' ≤ R.slots) (hdg : decode cc pc = .ok (.newarray .int, 2))
    (kk : ∀ (q : Nat) (H1 : Heap), va_P D vwCl (ws ++ [aI C q N' (fun _ => 0)]) H1 → va_D A (ws ++ [aI C q N' (fun _ => 0)]) → va_S A H0 H1 locs → W p l e R s m args below meth c H1 locs (cells + 1) (slots + N') Q (F0 m (pc + 2) ls (.ref q :: rest))) : W p l e R s m args below meth c H locs cells slots Q (F0 m pc ls (.int n :: rest)) := by
  refine va_newa (atype := .int) hexec hb harr (ty := .int) rfl hK hP hD hS hA (a0 := (N', .inl (fun _ => 0))) (fun cA => rfl) hn hN hbytes hcells hslots hdg (fun q cA H1 hK1 hP1 hD1 hS1 => ?_)
  have e := kq 0 rfl (fun x h => by cases h) hK1
  subst e
  exact kk q H1 hP1 hD1 hS1
theorem nwJ {A : Nat → Prop} {ws : va_W} {H0 : Heap} (hexec : p.tables.exec = Jvm.exec) (hb : c.code = cc) (harr : (Cond.arrayClass .long).before args s = true) (hK : va_K D vwCl (TY C) s) (hP : va_P D vwCl ws H) (hD : va_D A ws) (hS : va_S A H0 H locs) (hA : ∀ q, H0.size ≤ q → A q)
    {n : Int32} (N' : Nat) (hn : ¬ n < 0) (hN : n.toNatClampNeg = N') (hbytes : N' * componentBytes .long ≤ 536870912) (hcells : cells + 1 ≤ R.cells) (hslots : slots + N' ≤ R.slots) (hdg : decode cc pc = .ok (.newarray .long, 2))
    (kk : ∀ (q : Nat) (H1 : Heap), va_P D vwCl (ws ++ [aJ C q N' (fun _ => 0)]) H1 → va_D A (ws ++ [aJ C q N' (fun _ => 0)]) → va_S A H0 H1 locs → W p l e R s m args below meth c H1 locs (cells + 1) (slots + N') Q (F0 m (pc + 2) ls (.ref q :: rest))) : W p l e R s m args below meth c H locs cells slots Q (F0 m pc ls (.int n :: rest)) := by
  refine va_newa (atype := .long) hexec hb harr (ty := .long) rfl hK hP hD hS hA (a0 := (N', .inr (.inl (fun _ => 0)))) (fun cA => rfl) hn hN hbytes hcells hslots hdg (fun q cA H1 hK1 hP1 hD1 hS1 => ?_)
  have e := kq 1 rfl (fun x h => by cases h) hK1
  subst e
  exact kk q H1 hP1 hD1 hS1
theorem nwB {A : Nat → Prop} {ws : va_W} {H0 : Heap} (hexec : p.tables.exec = Jvm.exec) (hb : c.code = cc) (harr : (Cond.arrayClass .byte).before args s = true) (hK : va_K D vwCl (TY C) s) (hP : va_P D vwCl ws H) (hD : va_D A ws) (hS : va_S A H0 H locs) (hA : ∀ q, H0.size ≤ q → A q)
    {n : Int32} (N' : Nat) (hn : ¬ n < 0) (hN : n.toNatClampNeg = N') (hbytes : N' * componentBytes .byte ≤ 536870912) (hcells : cells + 1 ≤ R.cells) (hslots : slots + N' ≤ R.slots) (hdg : decode cc pc = .ok (.newarray .byte, 2))
    (kk : ∀ (q : Nat) (H1 : Heap), va_P D vwCl (ws ++ [aB C q N' (fun _ => 0)]) H1 → va_D A (ws ++ [aB C q N' (fun _ => 0)]) → va_S A H0 H1 locs → W p l e R s m args below meth c H1 locs (cells + 1) (slots + N') Q (F0 m (pc + 2) ls (.ref q :: rest))) : W p l e R s m args below meth c H locs cells slots Q (F0 m pc ls (.int n :: rest)) := by
  refine va_newa (atype := .byte) hexec hb harr (ty := .byte) rfl hK hP hD hS hA (a0 := (N', .inl (fun _ => 0))) (fun cA => rfl) hn hN hbytes hcells hslots hdg (fun q cA H1 hK1 hP1 hD1 hS1 => ?_)
  have e := kq 2 rfl (fun x h => by cases h) hK1
  subst e
  exact kk q H1 hP1 hD1 hS1
theorem nwZ {A : Nat → Prop} {ws : va_W} {H0 : Heap} (hexec : p.tables.exec = Jvm.exec) (hb : c.code = cc) (harr : (Cond.arrayClass .boolean).before args s = true) (hK : va_K D vwCl (TY C) s) (hP : va_P D vwCl ws H) (hD : va_D A ws) (hS : va_S A H0 H locs) (hA : ∀ q, H0.size ≤ q → A q)
    {n : Int32} (N' : Nat) (hn : ¬ n < 0) (hN : n.toNatClampNeg = N') (hbytes : N' * componentBytes .boolean ≤ 536870912) (hcells : cells + 1 ≤ R.cells) (hslots : slots + N' ≤ R.slots) (hdg : decode cc pc = .ok (.newarray .boolean, 2))
    (kk : ∀ (q : Nat) (H1 : Heap), va_P D vwCl (ws ++ [aZ C q N' (fun _ => 0)]) H1 → va_D A (ws ++ [aZ C q N' (fun _ => 0)]) → va_S A H0 H1 locs → W p l e R s m args below meth c H1 locs (cells + 1) (slots + N') Q (F0 m (pc + 2) ls (.ref q :: rest))) : W p l e R s m args below meth c H locs cells slots Q (F0 m pc ls (.int n :: rest)) := by
  refine va_newa (atype := .boolean) hexec hb harr (ty := .boolean) rfl hK hP hD hS hA (a0 := (N', .inl (fun _ => 0))) (fun cA => rfl) hn hN hbytes hcells hslots hdg (fun q cA H1 hK1 hP1 hD1 hS1 => ?_)
  have e := kq 3 rfl (fun x h => by cases h) hK1
  subst e
  exact kk q H1 hP1 hD1 hS1
theorem nwG {A : Nat → Prop} {ws : va_W} {H0 : Heap} {own : String} (hexec : p.tables.exec = Jvm.exec) (hb : c.code = cc) (hown : s.vm.findClass own = some m.cls) (hclink : (Cond.classLink own index "HexWorkbench$Game").before args s = true) (hover : va_AO "HexWorkbench$Game" s) (hK : va_K D vwCl (TY C) s) (hP : va_P D vwCl ws H) (hD : va_D A ws) (hS : va_S A H0 H locs) (hA : ∀ q, H0.size ≤ q → A q)
    {n : Int32} (N' : Nat) (hn : ¬ n < 0) (hN : n.toNatClampNeg = N') (hbytes : N' * 4 ≤ 536870912) (hcells : cells + 1 ≤ R.cells) (hslots : slots + N' ≤ R.slots) (hdg : decode cc pc = .ok (.anewarray index, 3))
    (kk : ∀ (q : Nat) (H1 : Heap), va_P D vwCl (ws ++ [aG C q N' (fun _ => none)]) H1 → va_D A (ws ++ [aG C q N' (fun _ => none)]) → va_S A H0 H1 locs → W p l e R s m args below meth c H1 locs (cells + 1) (slots + N') Q (F0 m (pc + 3) ls (.ref q :: rest))) : W p l e R s m args below meth c H locs cells slots Q (F0 m pc ls (.int n :: rest)) := by
  refine va_newq hexec hb hown hclink hover hK hP hD hS hA hn hN hbytes hcells hslots hdg (fun q cA H1 hK1 hP1 hD1 hS1 => ?_)
  have e := kqG hK1
  subst e
  exact kk q H1 hP1 hD1 hS1
theorem rAi {A : Nat → Prop} {W1 : (Nat → Nat) → va_W} (u : Nat → Nat) (hc : Cx p s m args meth c y cc nL (some .int)) {v o : Int32} (h : v = o) (hP : va_P D vwCl (W1 u) H) (hD : va_D A (W1 u)) (hS : va_S A s.heap H locs) (hd : decode cc pc = .ok (.ireturn, 1)) : W p l e R s m args below meth c H locs cells slots (MQ below (QAi D o W1 A) args s cells slots A) (F0 m pc ls [.int v]) :=
  W.iret hc.1 hc.2.1 hc.2.2.1 (fun t ht hW => ⟨⟨v, u, rfl, h, by rw [ht]; exact hP, hD⟩, hS.F ht⟩) hS.2.2 hd (hlocks := hc.2.2.2.2.2.2.1)
theorem rAl {A : Nat → Prop} {W1 : (Nat → Nat) → va_W} (u : Nat → Nat) (hc : Cx p s m args meth c y cc nL (some .long)) {v o : Int64} (h : v = o) (hP : va_P D vwCl (W1 u) H) (hD : va_D A (W1 u)) (hS : va_S A s.heap H locs) (hd : decode cc pc = .ok (.lreturn, 1)) : W p l e R s m args below meth c H locs cells slots (MQ below (QAl D o W1 A) args s cells slots A) (F0 m pc ls [.long v]) :=
  W.lret hc.1 hc.2.1 hc.2.2.1 (fun t ht hW => ⟨⟨v, u, rfl, h, by rw [ht]; exact hP, hD⟩, hS.F ht⟩) hS.2.2 hd (hlocks := hc.2.2.2.2.2.2.1)
theorem rAv {A : Nat → Prop} {W1 : (Nat → Nat) → va_W} (u : Nat → Nat) (hc : Cx p s m args meth c y cc nL none) (hP : va_P D vwCl (W1 u) H) (hD : va_D A (W1 u)) (hS : va_S A s.heap H locs) (hd : decode cc pc = .ok (.return_, 1)) : W p l e R s m args below meth c H locs cells slots (MQ below (QAv D W1 A) args s cells slots A) (F0 m pc ls []) :=
  W.vret hc.1 hc.2.1 hc.2.2.1 (fun t ht hW => ⟨⟨u, rfl, trivial, by rw [ht]; exact hP, hD⟩, hS.F ht⟩) hS.2.2 hd (hlocks := hc.2.2.2.2.2.2.1)
theorem wcIW {A : Nat → Prop} {ws wc rc : va_W} {w1 : va_W} {h : Nat} (hc : Cx p s m args meth c y0 cc nL0 ret0) (kal : CalI y0.cls index y b nL k) (hy1 : y.name = "<init>") (hM : Met l y (wl y b nL none) rm (PW (.ref h :: As) D C H.size wc rc) (QWv D w1 (va_A wc H.size)) 0 0 (va_A wc H.size)) (hR : Rm rm R nL 0 0)
    (hP : va_P D vwCl ws H) (hD : va_D A ws) (hS : va_S A s.heap H locs) (hA : ∀ q : Nat, s.heap.size ≤ q → A q) (hK : va_K D vwCl (TY C) s) (isC isR : List Nat) (hC : isC.map (fun i => ws[i]?) = wc.map some) (hRr : isR.all (fun i => (ws[i]?).isSome) = true) (hnC : va_nd isC = true) (hnR : va_nd isR = true) (hdis : ∀ i ∈ isR, i ∉ isC) (hO : va_P D vwCl rc H) (hN : Ap wc H.size rc)
    (hl : lv_has ls nL0 lv) (hst : st = As.reverse ++ .ref h :: rest) (hn : As.length = k) (hW : (rest.map fun v => v.category).sum ≤ 8) (hs : cells ≤ R.cells ∧ slots ≤ R.slots) (hd : decode cc pc = .ok (.invokespecial index, 3))
    (kk : ∀ (H1 : Heap) (locs1 : List Loc), va_P D vwCl (isR.filterMap (fun i => ws[i]?) ++ w1) H1 → va_D A (isR.filterMap (fun i => ws[i]?) ++ w1) → va_S A s.heap H1 locs1 → W p l e R s m args below meth c H1 locs1 cells slots Q (F0 m (pc + 3) ls rest)) : W p l e R s m args below meth c H locs cells slots Q (F0 m pc ls st) := by
  subst hst
  have hFc := va_free (wc := wc) hD hS hA isC hC
  have hDc := hD.sub isC hnC hC
  have hPc : va_P D vwCl wc H := by
    intro k q hk
    have h1 : (isC.map (fun i => ws[i]?))[k]? = some (some q) := by rw [hC, List.getElem?_map, hk]; rfl
    rw [List.getElem?_map] at h1
    cases hi : isC[k]? with
    | none => rw [hi] at h1; cases h1
    | some i => rw [hi] at h1; exact hP i q (Option.some.inj h1)
  refine va_callv (va_runI (As := As) (rest := rest) (b := h) ⟨hc.1, hc.2.1, hc.2.2.2.1, hc.2.2.2.2.1, hc.2.2.2.2.2.1⟩ hM ⟨cb_of hc.2.2.2.2.2.1 kal.1 hR, hy1, hc.2.2.2.2.2.1 _ kal.2⟩ ⟨bl_W, fun U hU hW => ⟨rfl, by rw [hU], by rw [hU]; exact hPc, va_K.moved hW.alike hK, hDc.weaken (fun _ _ _ _ => trivial), by rw [hU]; exact hO, hN⟩⟩ rfl hn hl.1 rfl (lv_room hW) hd hs) hS (fun q _ h => hFc q h) hFc (fun u t H1 locs1 ht hvm hw hB hz1 hk1 hS1 => ?_)
  obtain ⟨hP1, hD1⟩ := hB
  rw [ht] at hP1
  obtain ⟨hP2, hD2⟩ := va_join hP hD isC isR hC (fm_some hRr) hnR hdis hk1 hFc hP1 hD1
  exact kk H1 locs1 hP2 hD2 hS1
theorem wcIA {mc ms : Nat} {A : Nat → Prop} {ws wc rc : va_W} {w1 : (Nat → Nat) → va_W} {h : Nat} (hc : Cx p s m args meth c y0 cc nL0 ret0) (kal : CalI y0.cls index y b nL k) (hy1 : y.name = "<init>") (hM : Met l y (wl y b nL none) rm (PW (.ref h :: As) D C H.size wc rc) (QAv D w1 (va_A wc H.size)) mc ms (va_A wc H.size)) (hR : Rm rm R nL mc ms)
    (hP : va_P D vwCl ws H) (hD : va_D A ws) (hS : va_S A s.heap H locs) (hA : ∀ q : Nat, s.heap.size ≤ q → A q) (hK : va_K D vwCl (TY C) s) (isC isR : List Nat) (hC : isC.map (fun i => ws[i]?) = wc.map some) (hRr : isR.all (fun i => (ws[i]?).isSome) = true) (hnC : va_nd isC = true) (hnR : va_nd isR = true) (hdis : ∀ i ∈ isR, i ∉ isC) (hO : va_P D vwCl rc H) (hN : Ap wc H.size rc)
    (hl : lv_has ls nL0 lv) (hst : st = As.reverse ++ .ref h :: rest) (hn : As.length = k) (hW : (rest.map fun v => v.category).sum ≤ 8) (hs : cells + mc ≤ R.cells ∧ slots + ms ≤ R.slots) (hd : decode cc pc = .ok (.invokespecial index, 3))
    (kk : ∀ (u : Nat → Nat) (H1 : Heap) (locs1 : List Loc), va_P D vwCl (isR.filterMap (fun i => ws[i]?) ++ w1 u) H1 → va_D A (isR.filterMap (fun i => ws[i]?) ++ w1 u) → va_S A s.heap H1 locs1 → W p l e R s m args below meth c H1 locs1 (cells + mc) (slots + ms) Q (F0 m (pc + 3) ls rest)) : W p l e R s m args below meth c H locs cells slots Q (F0 m pc ls st) := by
  subst hst
  have hFc := va_free (wc := wc) hD hS hA isC hC
  have hDc := hD.sub isC hnC hC
  have hPc : va_P D vwCl wc H := by
    intro k q hk
    have h1 : (isC.map (fun i => ws[i]?))[k]? = some (some q) := by rw [hC, List.getElem?_map, hk]; rfl
    rw [List.getElem?_map] at h1
    cases hi : isC[k]? with
    | none => rw [hi] at h1; cases h1
    | some i => rw [hi] at h1; exact hP i q (Option.some.inj h1)
  refine va_callv (va_runI (As := As) (rest := rest) (b := h) ⟨hc.1, hc.2.1, hc.2.2.2.1, hc.2.2.2.2.1, hc.2.2.2.2.2.1⟩ hM ⟨cb_of hc.2.2.2.2.2.1 kal.1 hR, hy1, hc.2.2.2.2.2.1 _ kal.2⟩ ⟨bl_W, fun U hU hW => ⟨rfl, by rw [hU], by rw [hU]; exact hPc, va_K.moved hW.alike hK, hDc.weaken (fun _ _ _ _ => trivial), by rw [hU]; exact hO, hN⟩⟩ rfl hn hl.1 rfl (lv_room hW) hd hs) hS (fun q _ h => hFc q h) hFc (fun u t H1 locs1 ht hvm hw hB hz1 hk1 hS1 => ?_)
  obtain ⟨hP1, hD1⟩ := hB
  rw [ht] at hP1
  obtain ⟨hP2, hD2⟩ := va_join hP hD isC isR hC (fm_some hRr) hnR hdis hk1 hFc hP1 hD1
  exact kk u H1 locs1 hP2 hD2 hS1
theorem wcIN {mc ms : Nat} {A : Nat → Prop} {ws wc rc : va_W} {w1 : (Nat → Nat) → va_W} {h : Nat} (hc : Cx p s m args meth c y0 cc nL0 ret0) {host : String} (kal : CalN y0.cls index y host b nL none k) (hin9 : Cond.instanceMethod y ∈ lw_g) (hNw : va_Nw (.methodLinkNest y0.cls index y host) s) (hy1 : y.name = "<init>") (hM : Met l y (wl y b nL none) rm (PW (.ref h :: As) D C H.size wc rc) (QAv D w1 (va_A wc H.size)) mc ms (va_A wc H.size)) (hR : Rm rm R nL mc ms)
    (hP : va_P D vwCl ws H) (hD : va_D A ws) (hS : va_S A s.heap H locs) (hA : ∀ q : Nat, s.heap.size ≤ q → A q) (hK : va_K D vwCl (TY C) s) (isC isR : List Nat) (hC : isC.map (fun i => ws[i]?) = wc.map some) (hRr : isR.all (fun i => (ws[i]?).isSome) = true) (hnC : va_nd isC = true) (hnR : va_nd isR = true) (hdis : ∀ i ∈ isR, i ∉ isC) (hO : va_P D vwCl rc H) (hN : Ap wc H.size rc)
    (hl : lv_has ls nL0 lv) (hst : st = As.reverse ++ .ref h :: rest) (hn : As.length = k) (hW : (rest.map fun v => v.category).sum ≤ 8) (hs : cells + mc ≤ R.cells ∧ slots + ms ≤ R.slots) (hd : decode cc pc = .ok (.invokespecial index, 3))
    (kk : ∀ (u : Nat → Nat) (H1 : Heap) (locs1 : List Loc), va_P D vwCl (isR.filterMap (fun i => ws[i]?) ++ w1 u) H1 → va_D A (isR.filterMap (fun i => ws[i]?) ++ w1 u) → va_S A s.heap H1 locs1 → W p l e R s m args below meth c H1 locs1 (cells + mc) (slots + ms) Q (F0 m (pc + 3) ls rest)) : W p l e R s m args below meth c H locs cells slots Q (F0 m pc ls st) := by
  subst hst
  have hFc := va_free (wc := wc) hD hS hA isC hC
  have hDc := hD.sub isC hnC hC
  have hPc : va_P D vwCl wc H := by
    intro k q hk
    have h1 : (isC.map (fun i => ws[i]?))[k]? = some (some q) := by rw [hC, List.getElem?_map, hk]; rfl
    rw [List.getElem?_map] at h1
    cases hi : isC[k]? with
    | none => rw [hi] at h1; cases h1
    | some i => rw [hi] at h1; exact hP i q (Option.some.inj h1)
  refine va_callv (va_runIN (As := As) (rest := rest) (b := h) ⟨hc.1, hc.2.1, hc.2.2.2.1, hc.2.2.2.2.1, hc.2.2.2.2.2.1⟩ hM ⟨va_cnB k hc.2.2.2.2.2.1 (lw_gi kal.1) rfl hR.1 hR.2.1 hNw (hc.2.2.2.2.2.1 _ kal.2.1) kal.2.2 hR.2.2, hy1, hc.2.2.2.2.2.1 _ hin9⟩ ⟨bl_W, fun U hU hW => ⟨rfl, by rw [hU], by rw [hU]; exact hPc, va_K.moved hW.alike hK, hDc.weaken (fun _ _ _ _ => trivial), by rw [hU]; exact hO, hN⟩⟩ rfl hn hl.1 rfl (lv_room hW) hd hs) hS (fun q _ h => hFc q h) hFc (fun u t H1 locs1 ht hvm hw hB hz1 hk1 hS1 => ?_)
  obtain ⟨hP1, hD1⟩ := hB
  rw [ht] at hP1
  obtain ⟨hP2, hD2⟩ := va_join hP hD isC isR hC (fm_some hRr) hnR hdis hk1 hFc hP1 hD1
  exact kk u H1 locs1 hP2 hD2 hS1
end BASE3

abbrev wl (y : MethodName) (cc : ByteArray) (n : Nat) (r : Option FieldType) : List Cond := Cond.code y cc n r :: lw_g
/-- a method's machine: its code, its class, the tables' words -/
def Cx (p : Program) (s : State) (m : MethodId) (args : Array Value) (meth : Method) (c : Code) (y : MethodName) (cc : ByteArray) (nL : Nat) (ret : Option FieldType) : Prop :=
  p.tables.exec = Jvm.exec ∧ c.code = cc ∧ meth.sig.returnType = ret ∧ c.maxLocals = nL ∧ s.vm.findClass y.cls = some m.cls ∧ (∀ w ∈ lw_g, w.before args s = true) ∧ meth.locks = false ∧ meth.name = y.name
theorem Met_ofC {l : Launch} {y : MethodName} {cc : ByteArray} {nL : Nat} {ret : Option FieldType} {rm : Room} {Pc : Array Value → State → Prop} {Qc : Array Value → State → Outcome → State → Prop} {mc ms : Nat} {free : Addr → Prop} (hy : plainName y.cls = true)
    (body : ∀ (p : Program) (e : Env) (s : State) (m : MethodId) (args : Array Value) (below : List Frame) (meth : Method) (c : Code), Cx p s m args meth c y cc nL ret → Pc args s → W p l e rm s m args below meth c s.heap [] 0 0 (MQ below Qc args s mc ms free) (entryFrame m args nL)) : Met l y (wl y cc nL ret) rm Pc Qc mc ms free := by
  refine Met.ofW (cc := cc) (maxL := nL) (ret := ret) hy rfl ?_
  intro p e s m args below meth c s₁ B hml hv
  exact body p e s m args below meth c ⟨B.exec, B.bytes, B.returns, hml, findClass_of_methodNamed B.named, fun w hw => atoms_spec (ws := wl y cc nL ret) B.pre w (List.mem_cons_of_mem _ hw), B.notSynchronized, (name_of_methodNamed B.named B.method).1⟩ hv
abbrev TY (C : Nat → ClassId) : List (ClassId × FieldType) := [(C 0, .int), (C 1, .long), (C 2, .byte), (C 3, .boolean), (C 4, .object "HexWorkbench$Game")]
abbrev PR (av : List Value) (D : va_G) (C : Nat → ClassId) (ro : va_W) : Array Value → State → Prop := va_Pc av (fun U => va_P D vwCl ro U.heap ∧ va_K D vwCl (TY C) U)
/-- cells that a world doesn't hold -/
def Ap (W0 : va_W) (sz : Nat) (ro : va_W) : Prop := ∀ q ∈ ro, ¬ va_A W0 sz q.1
abbrev PW (av : List Value) (D : va_G) (C : Nat → ClassId) (sz : Nat) (W0 ro : va_W) : Array Value → State → Prop := va_Pc av (fun U => U.heap.size = sz ∧ va_P D vwCl W0 U.heap ∧ va_K D vwCl (TY C) U ∧ va_D (fun _ => True) W0 ∧ va_P D vwCl ro U.heap ∧ Ap W0 sz ro)
abbrev QWi (D : va_G) (o : Int32) (W1 : va_W) (A : Nat → Prop) : Array Value → State → Outcome → State → Prop := va_Qi (fun r (_ : Unit) => r = o) (fun _ t => va_P D vwCl W1 t.heap ∧ va_D A W1) A
abbrev QWl (D : va_G) (o : Int64) (W1 : va_W) (A : Nat → Prop) : Array Value → State → Outcome → State → Prop := va_Ql (fun r (_ : Unit) => r = o) (fun _ t => va_P D vwCl W1 t.heap ∧ va_D A W1) A
abbrev QWv (D : va_G) (W1 : va_W) (A : Nat → Prop) : Array Value → State → Outcome → State → Prop := va_Qv (fun (_ : Unit) => True) (fun _ t => va_P D vwCl W1 t.heap ∧ va_D A W1) A
theorem Ap_nil {W0 : va_W} {sz : Nat} : Ap W0 sz [] := fun q h => by cases h
theorem Ap_cons {W0 : va_W} {sz : Nat} {q : Nat × va_E} {ro : va_W} (h : ¬ va_A W0 sz q.1) (hr : Ap W0 sz ro) : Ap W0 sz (q :: ro) := fun z hz => (List.mem_cons.mp hz).elim (fun e => e ▸ h) (hr z)
/-- what isn't the method's own stays -/
theorem ro_S {D : va_G} {A : Nat → Prop} {H0 H : Heap} {locs : List Loc} {ro : va_W} (hO : va_P D vwCl ro H0) (hN : ∀ q ∈ ro, ¬ A q.1) (hS : va_S A H0 H locs) : va_P D vwCl ro H := hO.kept (fun k q hk => hS.2.1 q.1 (hO k q hk).lt (hN q (List.mem_of_getElem? hk)))
theorem apart_w {D : va_G} {A0 : Nat → Prop} {ws wc : va_W} {H : Heap} (hP : va_P D vwCl ws H) (hD : va_D A0 ws) (isC : List Nat) (hC : isC.map (fun i => ws[i]?) = wc.map some) (i : Nat) {q : Nat × va_E} (he : ws[i]? = some q) (hi : i ∉ isC) : ¬ va_A wc H.size q.1 := by
  intro h
  rcases h with ⟨k2, e, h⟩ | h
  · have h1 : (isC.map (fun i => ws[i]?))[k2]? = some (some (q.1, e)) := by rw [hC, List.getElem?_map, h]; rfl
    rw [List.getElem?_map] at h1
    cases hj : isC[k2]? with
    | none => rw [hj] at h1; cases h1
    | some j =>
      rw [hj] at h1
      have hij := hD.1 i j q (q.1, e) he (Option.some.inj h1) rfl
      subst hij
      exact hi (List.mem_of_getElem? hj)
  · have := (hP i q he).lt
    omega
theorem fm_some {ws : va_W} {is : List Nat} (h : is.all (fun i => (ws[i]?).isSome) = true) : is.map (fun i => ws[i]?) = (is.filterMap (fun i => ws[i]?)).map some := by
  induction is with
  | nil => rfl
  | cons i is ih =>
    rw [List.all_cons, Bool.and_eq_true] at h
    obtain ⟨q, hq⟩ := Option.isSome_iff_exists.mp h.1
    rw [List.map_cons, ih h.2, List.filterMap_cons]
    simp only [hq, List.map_cons]
def jlet {α β : Type} (e : α) (f : α → β) : β := f e
theorem jlet_t {α β : Type} {e x : α} {f : α → β} {o : β} (h : jlet e f = o) (hx : x = e) : f x = o := by subst hx; exact h
theorem no_some {α : Type} {o : α} {P : Prop} (h : (none : Option α) = some o) : P := by cases h
theorem bind_some {α β : Type} {x : Option α} {f : α → Option β} {b : β} (h : x.bind f = some b) : ∃ a, x = some a ∧ f a = some b := Option.bind_eq_some_iff.mp h
theorem if_t {α : Type} {P : Prop} [Decidable P] {a b o : α} (h : (if P then a else b) = o) (hc : P) : a = o := by rw [if_pos hc] at h; exact h
theorem if_f {α : Type} {P : Prop} [Decidable P] {a b o : α} (h : (if P then a else b) = o) (hc : ¬ P) : b = o := by rw [if_neg hc] at h; exact h
def okI (i : Int32) (n : Nat) : Bool := decide (¬ (i < 0 ∨ n ≤ i.toNatClampNeg))
theorem okI_in {i : Int32} {n : Nat} (h : okI i n = true) : vp_in i n := of_decide_eq_true (p := ¬ (i < 0 ∨ n ≤ i.toNatClampNeg)) h
theorem ok_t {α : Type} {P : Prop} [Decidable P] {a : Option α} {o : α} (h : (if P then a else none) = some o) : P ∧ a = some o := by
  by_cases hp : P
  · rw [if_pos hp] at h; exact ⟨hp, h⟩
  · rw [if_neg hp] at h; cases h
theorem nz_t {α : Type} {P : Prop} [Decidable P] {a : Option α} {o : α} (h : (if P then none else a) = some o) : ¬ P ∧ a = some o := by
  by_cases hp : P
  · rw [if_pos hp] at h; cases h
  · rw [if_neg hp] at h; exact ⟨hp, h⟩
abbrev jshl (x : Int64) (y : Int32) : Int64 := x <<< (y.toInt64 &&& 63)
abbrev jshr (x : Int64) (y : Int32) : Int64 := x >>> (y.toInt64 &&& 63)
abbrev jushr (x : Int64) (y : Int32) : Int64 := (x.toUInt64 >>> (y.toInt64.toUInt64 &&& Int64.toUInt64 63)).toInt64
abbrev jiushr (x y : Int32) : Int32 := (x.toUInt32 >>> (y.toUInt32 &&& Int32.toUInt32 31)).toInt32
abbrev jmax (x y : Int32) : Int32 := if x < y then y else x
abbrev jmin (x y : Int32) : Int32 := if y < x then y else x
abbrev jirem (x y : Int32) : Int32 := x - x / y * y
abbrev jlrem (x y : Int64) : Int64 := x - x / y * y
theorem sw_out4 {x : Int32} (h0 : ¬ x = (0 : Int32)) (h1 : ¬ x = (1 : Int32)) (h2 : ¬ x = (2 : Int32)) (h3 : ¬ x = (3 : Int32)) : x.toInt < 0 ∨ 3 < x.toInt := by
  have e0 : ¬ x.toInt = 0 := fun h => h0 (Int32.toInt_inj.mp h)
  have e1 : ¬ x.toInt = 1 := fun h => h1 (Int32.toInt_inj.mp h)
  have e2 : ¬ x.toInt = 2 := fun h => h2 (Int32.toInt_inj.mp h)
  have e3 : ¬ x.toInt = 3 := fun h => h3 (Int32.toInt_inj.mp h)
  omega
theorem sw_outn4 {x : Int32} (h0 : ¬ x = (-4 : Int32)) (h1 : ¬ x = (-3 : Int32)) (h2 : ¬ x = (-2 : Int32)) (h3 : ¬ x = (-1 : Int32)) : x.toInt < -4 ∨ -1 < x.toInt := by
  have e0 : ¬ x.toInt = -4 := fun h => h0 (Int32.toInt_inj.mp h)
  have e1 : ¬ x.toInt = -3 := fun h => h1 (Int32.toInt_inj.mp h)
  have e2 : ¬ x.toInt = -2 := fun h => h2 (Int32.toInt_inj.mp h)
  have e3 : ¬ x.toInt = -1 := fun h => h3 (Int32.toInt_inj.mp h)
  omega
section BASE
variable {p : Program} {l : Launch} {e : Env} {R : Room} {s : State} {m : MethodId} {args : Array Value} {below : List Frame} {meth : Method} {c : Code} {H : Heap} {locs : List Loc} {cells slots : Nat} {Q : State → Prop} {y0 y : MethodName} {cc b : ByteArray} {nL0 nL k index pc : Nat} {ret0 ret : Option FieldType} {rm : Room} {D : va_G} {C : Nat → ClassId} {ls : Array Slot} {lv : List (Nat × Value)} {As rest st : List Value}
theorem en_F {av : List Value} (h : Nat.ble (lg_sl av).length nL = true) (k : ∀ ls : Array Slot, lv_has ls nL (lv_args 0 av) → W p l e R s m args below meth c H locs cells slots Q (F0 m 0 ls [])) : W p l e R s m args below meth c H locs cells slots Q (entryFrame m av.toArray nL) := by
  rw [lg_entry_eq]
  exact k _ (lv_entry av (Nat.le_of_ble_eq_true h))
theorem cmp_eq {x y : Int64} : lg_cmp x y = 0 ↔ x = y := by
  unfold lg_cmp
  by_cases h1 : x > y
  · have : ¬ x = y := fun h => by subst h; exact Int64.lt_irrefl h1
    simp [h1, this]
  · by_cases h2 : x = y <;> simp [h1, h2]
theorem lc_eq (hexec : p.tables.exec = Jvm.exec) (hb : c.code = cc) {x y : Int64} {off : Int} {tgt : Nat} (hd1 : decode cc pc = .ok (.lcmp, 1)) (hd2 : decode cc (pc + 1) = .ok (.ifCond .eq off, 3)) (ht : ((pc + 1 : Nat) : Int) + off = (tgt : Int))
    (kt : x = y → W p l e R s m args below meth c H locs cells slots Q (F0 m tgt ls rest)) (kf : ¬ x = y → W p l e R s m args below meth c H locs cells slots Q (F0 m (pc + 4) ls rest)) : W p l e R s m args below meth c H locs cells slots Q (F0 m pc ls (.long y :: .long x :: rest)) :=
  W.lcmp hexec hb hd1 (lv_if_eq hexec hb hd2 ht (fun h => kt (cmp_eq.mp h)) (fun h => kf (fun q => h (cmp_eq.mpr q))))
theorem lc_ne (hexec : p.tables.exec = Jvm.exec) (hb : c.code = cc) {x y : Int64} {off : Int} {tgt : Nat} (hd1 : decode cc pc = .ok (.lcmp, 1)) (hd2 : decode cc (pc + 1) = .ok (.ifCond .ne off, 3)) (ht : ((pc + 1 : Nat) : Int) + off = (tgt : Int))
    (kt : ¬ x = y → W p l e R s m args below meth c H locs cells slots Q (F0 m tgt ls rest)) (kf : x = y → W p l e R s m args below meth c H locs cells slots Q (F0 m (pc + 4) ls rest)) : W p l e R s m args below meth c H locs cells slots Q (F0 m pc ls (.long y :: .long x :: rest)) :=
  W.lcmp hexec hb hd1 (lv_if_ne hexec hb hd2 ht (fun h => kt (fun q => h (cmp_eq.mpr q))) (fun h => kf (cmp_eq.mp h)))
theorem rRi (hc : Cx p s m args meth c y cc nL (some .int)) {v o : Int32} (h : v = o) (hd : decode cc pc = .ok (.ireturn, 1)) : W p l e R s m args below meth c s.heap [] 0 0 (MQ below (vp_Si (fun r => r = o)) args s 0 0 (fun _ => False)) (F0 m pc ls [.int v]) :=
  W.iret hc.1 hc.2.1 hc.2.2.1 (fun t ht hW => ⟨v, rfl, h, ht⟩) (fun q h => by cases h) hd (hlocks := hc.2.2.2.2.2.2.1)
theorem rRz (hc : Cx p s m args meth c y cc nL (some .boolean)) {v o : Int32} (hn : narrow .boolean (.int v) = .int v) (h : v = o) (hd : decode cc pc = .ok (.ireturn, 1)) : W p l e R s m args below meth c s.heap [] 0 0 (MQ below (vp_Si (fun r => r = o)) args s 0 0 (fun _ => False)) (F0 m pc ls [.int v]) :=
  W.zret hc.1 hc.2.1 hc.2.2.1 hn (fun t ht hW => ⟨v, rfl, h, ht⟩) (fun q h => by cases h) hd (hlocks := hc.2.2.2.2.2.2.1)
theorem rRl (hc : Cx p s m args meth c y cc nL (some .long)) {v o : Int64} (h : v = o) (hd : decode cc pc = .ok (.lreturn, 1)) : W p l e R s m args below meth c s.heap [] 0 0 (MQ below (vp_Sl (fun r => r = o)) args s 0 0 (fun _ => False)) (F0 m pc ls [.long v]) :=
  W.lret hc.1 hc.2.1 hc.2.2.1 (fun t ht hW => ⟨v, rfl, h, ht⟩) (fun q h => by cases h) hd (hlocks := hc.2.2.2.2.2.2.1)
theorem rWi {A : Nat → Prop} {W1 : va_W} (hc : Cx p s m args meth c y cc nL (some .int)) {v o : Int32} (h : v = o) (hP : va_P D vwCl W1 H) (hD : va_D A W1) (hS : va_S A s.heap H locs) (hd : decode cc pc = .ok (.ireturn, 1)) : W p l e R s m args below meth c H locs cells slots (MQ below (QWi D o W1 A) args s cells slots A) (F0 m pc ls [.int v]) :=
  W.iret hc.1 hc.2.1 hc.2.2.1 (fun t ht hW => ⟨⟨v, (), rfl, h, by rw [ht]; exact hP, hD⟩, hS.F ht⟩) hS.2.2 hd (hlocks := hc.2.2.2.2.2.2.1)
theorem rWz {A : Nat → Prop} {W1 : va_W} (hc : Cx p s m args meth c y cc nL (some .boolean)) {v o : Int32} (hn : narrow .boolean (.int v) = .int v) (h : v = o) (hP : va_P D vwCl W1 H) (hD : va_D A W1) (hS : va_S A s.heap H locs) (hd : decode cc pc = .ok (.ireturn, 1)) : W p l e R s m args below meth c H locs cells slots (MQ below (QWi D o W1 A) args s cells slots A) (F0 m pc ls [.int v]) :=
  W.zret hc.1 hc.2.1 hc.2.2.1 hn (fun t ht hW => ⟨⟨v, (), rfl, h, by rw [ht]; exact hP, hD⟩, hS.F ht⟩) hS.2.2 hd (hlocks := hc.2.2.2.2.2.2.1)
theorem rWl {A : Nat → Prop} {W1 : va_W} (hc : Cx p s m args meth c y cc nL (some .long)) {v o : Int64} (h : v = o) (hP : va_P D vwCl W1 H) (hD : va_D A W1) (hS : va_S A s.heap H locs) (hd : decode cc pc = .ok (.lreturn, 1)) : W p l e R s m args below meth c H locs cells slots (MQ below (QWl D o W1 A) args s cells slots A) (F0 m pc ls [.long v]) :=
  W.lret hc.1 hc.2.1 hc.2.2.1 (fun t ht hW => ⟨⟨v, (), rfl, h, by rw [ht]; exact hP, hD⟩, hS.F ht⟩) hS.2.2 hd (hlocks := hc.2.2.2.2.2.2.1)
theorem rWv {A : Nat → Prop} {W1 : va_W} (hc : Cx p s m args meth c y cc nL none) (hP : va_P D vwCl W1 H) (hD : va_D A W1) (hS : va_S A s.heap H locs) (hd : decode cc pc = .ok (.return_, 1)) : W p l e R s m args below meth c H locs cells slots (MQ below (QWv D W1 A) args s cells slots A) (F0 m pc ls []) :=
  W.vret hc.1 hc.2.1 hc.2.2.1 (fun t ht hW => ⟨⟨(), rfl, trivial, by rw [ht]; exact hP, hD⟩, hS.F ht⟩) hS.2.2 hd (hlocks := hc.2.2.2.2.2.2.1)
/-- what the tables say of a call -/
def CalB (own : String) (index : Nat) (y : MethodName) (b : ByteArray) (n : Nat) (r : Option FieldType) (k : Nat) : Prop :=
  Cond.code y b n r ∈ lw_g ∧ Cond.initialized y.cls ∈ lw_g ∧ Cond.methodLink own index y ∈ lw_g ∧ (y.cls ≠ "java/lang/invoke/MethodHandle" ∧ y.cls ≠ "java/lang/invoke/VarHandle" ∧ (parseMethodDescriptor y.desc).map (fun d => d.parameters.length) = some k)
def CalV (own : String) (index : Nat) (y : MethodName) (b : ByteArray) (n : Nat) (r : Option FieldType) (k : Nat) : Prop := CalB own index y b n r k ∧ Cond.instanceMethod y ∈ lw_g ∧ Cond.selects y.cls y y ∈ lw_g
def CalS (own : String) (index : Nat) (y : MethodName) (b : ByteArray) (n : Nat) (r : Option FieldType) (k : Nat) : Prop := CalB own index y b n r k ∧ Cond.static y ∈ lw_g
def CalI (own : String) (index : Nat) (y : MethodName) (b : ByteArray) (n : Nat) (k : Nat) : Prop := CalB own index y b n none k ∧ Cond.instanceMethod y ∈ lw_g
def Rm (rm R : Room) (nL mc ms : Nat) : Prop := rm.cells = mc ∧ rm.slots = ms ∧ rm.frames + 1 ≤ R.frames ∧ 8 + (nL + 11) + rm.locals ≤ R.locals
theorem cb_of {mc ms : Nat} {own : String} (hts : ∀ w ∈ lw_g, w.before args s = true) (kal : CalB own index y b nL ret k) (hR : Rm rm R nL mc ms) : CallB R s args own index y b nL ret (wl y b nL ret) rm mc ms k :=
  callB_of k hts (lw_gi kal.1) rfl hR.1 hR.2.1 (hts _ kal.2.1) (hts _ kal.2.2.1) kal.2.2.2 hR.2.2
theorem bl_R {av : List Value} {ro : va_W} : FrameBlind (PR av D C ro) := fun a U g mk q => by
  obtain ⟨q0, qP, qK⟩ := q
  exact ⟨q0, qP, va_K.moved (u := U) (U := U.calling g mk a) (Vm.Alike.refl U.vm) qK⟩
theorem bl_W {av : List Value} {sz : Nat} {W0 ro : va_W} : FrameBlind (PW av D C sz W0 ro) := fun a U g mk q => by
  obtain ⟨q0, q1, qP, qK, qD⟩ := q
  exact ⟨q0, q1, qP, va_K.moved (u := U) (U := U.calling g mk a) (Vm.Alike.refl U.vm) qK, qD⟩
theorem rcVi {ro : va_W} {h q0 ci : Nat} {fs : List Value} {q : vw_C} {o : Int32} (hc : Cx p s m args meth c y0 cc nL0 ret0) (kal : CalV y0.cls index y b nL ret k) (hM : Met l y (wl y b nL ret) rm (PR (.ref h :: As) D C ro) (vp_Si (fun r => r = o)) 0 0 (fun _ => False)) (hR : Rm rm R nL 0 0)
    (hP : va_P D vwCl ro H) (hK : va_K D vwCl (TY C) s) (he : ro[q0]? = some (h, .inr (ci, fs))) (hq : vwCl[ci]? = some q) (hy : q.1 = y.cls) (hl : lv_has ls nL0 lv) (hst : st = As.reverse ++ .ref h :: rest) (hn : As.length = k) (hW : (rest.map fun v => v.category).sum ≤ 8) (hs : cells ≤ R.cells ∧ slots ≤ R.slots) (hd : decode cc pc = .ok (.invokevirtual index, 3))
    (kk : W p l e R s m args below meth c H locs cells slots Q (F0 m (pc + 3) ls (.int o :: rest))) : W p l e R s m args below meth c H locs cells slots Q (F0 m pc ls st) := by
  subst hst
  refine vp_callSi (W.runV (As := As) (rest := rest) (b := h) (C := y.cls) ⟨hc.1, hc.2.1, hc.2.2.2.1, hc.2.2.2.2.1, hc.2.2.2.2.2.1⟩ hM ⟨cb_of hc.2.2.2.2.2.1 kal.1 hR, hc.2.2.2.2.2.1 _ kal.2.1, hc.2.2.2.2.2.1 _ kal.2.2⟩ ⟨bl_R, hy ▸ va_recv hK hP hq he, fun U hU hW => ⟨rfl, by rw [hU]; exact hP, va_K.moved hW.alike hK⟩⟩ rfl hn hl.1 rfl (lv_room hW) hd hs) (fun r hr => ?_)
  subst hr
  exact kk
theorem rcVl {ro : va_W} {h q0 ci : Nat} {fs : List Value} {q : vw_C} {o : Int64} (hc : Cx p s m args meth c y0 cc nL0 ret0) (kal : CalV y0.cls index y b nL ret k) (hM : Met l y (wl y b nL ret) rm (PR (.ref h :: As) D C ro) (vp_Sl (fun r => r = o)) 0 0 (fun _ => False)) (hR : Rm rm R nL 0 0)
    (hP : va_P D vwCl ro H) (hK : va_K D vwCl (TY C) s) (he : ro[q0]? = some (h, .inr (ci, fs))) (hq : vwCl[ci]? = some q) (hy : q.1 = y.cls) (hl : lv_has ls nL0 lv) (hst : st = As.reverse ++ .ref h :: rest) (hn : As.length = k) (hW : (rest.map fun v => v.category).sum ≤ 8) (hs : cells ≤ R.cells ∧ slots ≤ R.slots) (hd : decode cc pc = .ok (.invokevirtual index, 3))
    (kk : W p l e R s m args below meth c H locs cells slots Q (F0 m (pc + 3) ls (.long o :: rest))) : W p l e R s m args below meth c H locs cells slots Q (F0 m pc ls st) := by
  subst hst
  refine vp_callSl (W.runV (As := As) (rest := rest) (b := h) (C := y.cls) ⟨hc.1, hc.2.1, hc.2.2.2.1, hc.2.2.2.2.1, hc.2.2.2.2.2.1⟩ hM ⟨cb_of hc.2.2.2.2.2.1 kal.1 hR, hc.2.2.2.2.2.1 _ kal.2.1, hc.2.2.2.2.2.1 _ kal.2.2⟩ ⟨bl_R, hy ▸ va_recv hK hP hq he, fun U hU hW => ⟨rfl, by rw [hU]; exact hP, va_K.moved hW.alike hK⟩⟩ rfl hn hl.1 rfl (lv_room hW) hd hs) (fun r hr => ?_)
  subst hr
  exact kk
theorem rcSi {ro : va_W} {o : Int32} (hc : Cx p s m args meth c y0 cc nL0 ret0) (kal : CalS y0.cls index y b nL ret k) (hM : Met l y (wl y b nL ret) rm (PR As D C ro) (vp_Si (fun r => r = o)) 0 0 (fun _ => False)) (hR : Rm rm R nL 0 0)
    (hP : va_P D vwCl ro H) (hK : va_K D vwCl (TY C) s) (hl : lv_has ls nL0 lv) (hst : st = As.reverse ++ rest) (hn : As.length = k) (hW : (rest.map fun v => v.category).sum ≤ 8) (hs : cells ≤ R.cells ∧ slots ≤ R.slots) (hd : decode cc pc = .ok (.invokestatic index, 3))
    (kk : W p l e R s m args below meth c H locs cells slots Q (F0 m (pc + 3) ls (.int o :: rest))) : W p l e R s m args below meth c H locs cells slots Q (F0 m pc ls st) := by
  subst hst
  refine vp_callSi (W.runS (As := As) (rest := rest) ⟨hc.1, hc.2.1, hc.2.2.2.1, hc.2.2.2.2.1, hc.2.2.2.2.2.1⟩ hM ⟨cb_of hc.2.2.2.2.2.1 kal.1 hR, hc.2.2.2.2.2.1 _ kal.2⟩ ⟨bl_R, fun U hU hW => ⟨rfl, by rw [hU]; exact hP, va_K.moved hW.alike hK⟩⟩ rfl hn hl.1 rfl (lv_room hW) hd hs) (fun r hr => ?_)
  subst hr
  exact kk
theorem rcSl {ro : va_W} {o : Int64} (hc : Cx p s m args meth c y0 cc nL0 ret0) (kal : CalS y0.cls index y b nL ret k) (hM : Met l y (wl y b nL ret) rm (PR As D C ro) (vp_Sl (fun r => r = o)) 0 0 (fun _ => False)) (hR : Rm rm R nL 0 0)
    (hP : va_P D vwCl ro H) (hK : va_K D vwCl (TY C) s) (hl : lv_has ls nL0 lv) (hst : st = As.reverse ++ rest) (hn : As.length = k) (hW : (rest.map fun v => v.category).sum ≤ 8) (hs : cells ≤ R.cells ∧ slots ≤ R.slots) (hd : decode cc pc = .ok (.invokestatic index, 3))
    (kk : W p l e R s m args below meth c H locs cells slots Q (F0 m (pc + 3) ls (.long o :: rest))) : W p l e R s m args below meth c H locs cells slots Q (F0 m pc ls st) := by
  subst hst
  refine vp_callSl (W.runS (As := As) (rest := rest) ⟨hc.1, hc.2.1, hc.2.2.2.1, hc.2.2.2.2.1, hc.2.2.2.2.2.1⟩ hM ⟨cb_of hc.2.2.2.2.2.1 kal.1 hR, hc.2.2.2.2.2.1 _ kal.2⟩ ⟨bl_R, fun U hU hW => ⟨rfl, by rw [hU]; exact hP, va_K.moved hW.alike hK⟩⟩ rfl hn hl.1 rfl (lv_room hW) hd hs) (fun r hr => ?_)
  subst hr
  exact kk
theorem wcVi {A : Nat → Prop} {ws wc w1 rc : va_W} {h q0 ci : Nat} {fs : List Value} {q : vw_C} {o : Int32} (hc : Cx p s m args meth c y0 cc nL0 ret0) (kal : CalV y0.cls index y b nL ret k) (hM : Met l y (wl y b nL ret) rm (PW (.ref h :: As) D C H.size wc rc) (QWi D o w1 (va_A wc H.size)) 0 0 (va_A wc H.size)) (hR : Rm rm R nL 0 0)
    (hP : va_P D vwCl ws H) (hD : va_D A ws) (hS : va_S A s.heap H locs) (hA : ∀ q : Nat, s.heap.size ≤ q → A q) (hK : va_K D vwCl (TY C) s) (isC isR : List Nat) (hC : isC.map (fun i => ws[i]?) = wc.map some) (hRr : isR.all (fun i => (ws[i]?).isSome) = true) (hnC : va_nd isC = true) (hnR : va_nd isR = true) (hdis : ∀ i ∈ isR, i ∉ isC) (hO : va_P D vwCl rc H) (hN : Ap wc H.size rc)
    (he : wc[q0]? = some (h, .inr (ci, fs))) (hq : vwCl[ci]? = some q) (hy : q.1 = y.cls) (hl : lv_has ls nL0 lv) (hst : st = As.reverse ++ .ref h :: rest) (hn : As.length = k) (hW : (rest.map fun v => v.category).sum ≤ 8) (hs : cells ≤ R.cells ∧ slots ≤ R.slots) (hd : decode cc pc = .ok (.invokevirtual index, 3))
    (kk : ∀ (H1 : Heap) (locs1 : List Loc), va_P D vwCl (isR.filterMap (fun i => ws[i]?) ++ w1) H1 → va_D A (isR.filterMap (fun i => ws[i]?) ++ w1) → va_S A s.heap H1 locs1 → W p l e R s m args below meth c H1 locs1 cells slots Q (F0 m (pc + 3) ls (.int o :: rest))) : W p l e R s m args below meth c H locs cells slots Q (F0 m pc ls st) := by
  subst hst
  have hFc := va_free (wc := wc) hD hS hA isC hC
  have hDc := hD.sub isC hnC hC
  have hPc : va_P D vwCl wc H := by
    intro k q hk
    have h1 : (isC.map (fun i => ws[i]?))[k]? = some (some q) := by rw [hC, List.getElem?_map, hk]; rfl
    rw [List.getElem?_map] at h1
    cases hi : isC[k]? with
    | none => rw [hi] at h1; cases h1
    | some i => rw [hi] at h1; exact hP i q (Option.some.inj h1)
  refine va_calli (va_runV (As := As) (rest := rest) (b := h) (C := y.cls) ⟨hc.1, hc.2.1, hc.2.2.2.1, hc.2.2.2.2.1, hc.2.2.2.2.2.1⟩ hM ⟨cb_of hc.2.2.2.2.2.1 kal.1 hR, hc.2.2.2.2.2.1 _ kal.2.1, hc.2.2.2.2.2.1 _ kal.2.2⟩ ⟨bl_W, hy ▸ va_recv hK hPc hq he, fun U hU hW => ⟨rfl, by rw [hU], by rw [hU]; exact hPc, va_K.moved hW.alike hK, hDc.weaken (fun _ _ _ _ => trivial), by rw [hU]; exact hO, hN⟩⟩ rfl hn hl.1 rfl (lv_room hW) hd hs) hS (fun q _ h => hFc q h) hFc (fun r u t H1 locs1 ht hvm hw hB hz1 hk1 hS1 => ?_)
  obtain ⟨hP1, hD1⟩ := hB
  rw [ht] at hP1
  obtain ⟨hP2, hD2⟩ := va_join (w1 := w1) hP hD isC isR hC (fm_some hRr) hnR hdis hk1 hFc hP1 hD1
  subst hw
  exact kk H1 locs1 hP2 hD2 hS1
theorem wcVl {A : Nat → Prop} {ws wc w1 rc : va_W} {h q0 ci : Nat} {fs : List Value} {q : vw_C} {o : Int64} (hc : Cx p s m args meth c y0 cc nL0 ret0) (kal : CalV y0.cls index y b nL ret k) (hM : Met l y (wl y b nL ret) rm (PW (.ref h :: As) D C H.size wc rc) (QWl D o w1 (va_A wc H.size)) 0 0 (va_A wc H.size)) (hR : Rm rm R nL 0 0)
    (hP : va_P D vwCl ws H) (hD : va_D A ws) (hS : va_S A s.heap H locs) (hA : ∀ q : Nat, s.heap.size ≤ q → A q) (hK : va_K D vwCl (TY C) s) (isC isR : List Nat) (hC : isC.map (fun i => ws[i]?) = wc.map some) (hRr : isR.all (fun i => (ws[i]?).isSome) = true) (hnC : va_nd isC = true) (hnR : va_nd isR = true) (hdis : ∀ i ∈ isR, i ∉ isC) (hO : va_P D vwCl rc H) (hN : Ap wc H.size rc)
    (he : wc[q0]? = some (h, .inr (ci, fs))) (hq : vwCl[ci]? = some q) (hy : q.1 = y.cls) (hl : lv_has ls nL0 lv) (hst : st = As.reverse ++ .ref h :: rest) (hn : As.length = k) (hW : (rest.map fun v => v.category).sum ≤ 8) (hs : cells ≤ R.cells ∧ slots ≤ R.slots) (hd : decode cc pc = .ok (.invokevirtual index, 3))
    (kk : ∀ (H1 : Heap) (locs1 : List Loc), va_P D vwCl (isR.filterMap (fun i => ws[i]?) ++ w1) H1 → va_D A (isR.filterMap (fun i => ws[i]?) ++ w1) → va_S A s.heap H1 locs1 → W p l e R s m args below meth c H1 locs1 cells slots Q (F0 m (pc + 3) ls (.long o :: rest))) : W p l e R s m args below meth c H locs cells slots Q (F0 m pc ls st) := by
  subst hst
  have hFc := va_free (wc := wc) hD hS hA isC hC
  have hDc := hD.sub isC hnC hC
  have hPc : va_P D vwCl wc H := by
    intro k q hk
    have h1 : (isC.map (fun i => ws[i]?))[k]? = some (some q) := by rw [hC, List.getElem?_map, hk]; rfl
    rw [List.getElem?_map] at h1
    cases hi : isC[k]? with
    | none => rw [hi] at h1; cases h1
    | some i => rw [hi] at h1; exact hP i q (Option.some.inj h1)
  refine va_calll (va_runV (As := As) (rest := rest) (b := h) (C := y.cls) ⟨hc.1, hc.2.1, hc.2.2.2.1, hc.2.2.2.2.1, hc.2.2.2.2.2.1⟩ hM ⟨cb_of hc.2.2.2.2.2.1 kal.1 hR, hc.2.2.2.2.2.1 _ kal.2.1, hc.2.2.2.2.2.1 _ kal.2.2⟩ ⟨bl_W, hy ▸ va_recv hK hPc hq he, fun U hU hW => ⟨rfl, by rw [hU], by rw [hU]; exact hPc, va_K.moved hW.alike hK, hDc.weaken (fun _ _ _ _ => trivial), by rw [hU]; exact hO, hN⟩⟩ rfl hn hl.1 rfl (lv_room hW) hd hs) hS (fun q _ h => hFc q h) hFc (fun r u t H1 locs1 ht hvm hw hB hz1 hk1 hS1 => ?_)
  obtain ⟨hP1, hD1⟩ := hB
  rw [ht] at hP1
  obtain ⟨hP2, hD2⟩ := va_join (w1 := w1) hP hD isC isR hC (fm_some hRr) hnR hdis hk1 hFc hP1 hD1
  subst hw
  exact kk H1 locs1 hP2 hD2 hS1
theorem wcVv {A : Nat → Prop} {ws wc w1 rc : va_W} {h q0 ci : Nat} {fs : List Value} {q : vw_C} (hc : Cx p s m args meth c y0 cc nL0 ret0) (kal : CalV y0.cls index y b nL ret k) (hM : Met l y (wl y b nL ret) rm (PW (.ref h :: As) D C H.size wc rc) (QWv D w1 (va_A wc H.size)) 0 0 (va_A wc H.size)) (hR : Rm rm R nL 0 0)
    (hP : va_P D vwCl ws H) (hD : va_D A ws) (hS : va_S A s.heap H locs) (hA : ∀ q : Nat, s.heap.size ≤ q → A q) (hK : va_K D vwCl (TY C) s) (isC isR : List Nat) (hC : isC.map (fun i => ws[i]?) = wc.map some) (hRr : isR.all (fun i => (ws[i]?).isSome) = true) (hnC : va_nd isC = true) (hnR : va_nd isR = true) (hdis : ∀ i ∈ isR, i ∉ isC) (hO : va_P D vwCl rc H) (hN : Ap wc H.size rc)
    (he : wc[q0]? = some (h, .inr (ci, fs))) (hq : vwCl[ci]? = some q) (hy : q.1 = y.cls) (hl : lv_has ls nL0 lv) (hst : st = As.reverse ++ .ref h :: rest) (hn : As.length = k) (hW : (rest.map fun v => v.category).sum ≤ 8) (hs : cells ≤ R.cells ∧ slots ≤ R.slots) (hd : decode cc pc = .ok (.invokevirtual index, 3))
    (kk : ∀ (H1 : Heap) (locs1 : List Loc), va_P D vwCl (isR.filterMap (fun i => ws[i]?) ++ w1) H1 → va_D A (isR.filterMap (fun i => ws[i]?) ++ w1) → va_S A s.heap H1 locs1 → W p l e R s m args below meth c H1 locs1 cells slots Q (F0 m (pc + 3) ls rest)) : W p l e R s m args below meth c H locs cells slots Q (F0 m pc ls st) := by
  subst hst
  have hFc := va_free (wc := wc) hD hS hA isC hC
  have hDc := hD.sub isC hnC hC
  have hPc : va_P D vwCl wc H := by
    intro k q hk
    have h1 : (isC.map (fun i => ws[i]?))[k]? = some (some q) := by rw [hC, List.getElem?_map, hk]; rfl
    rw [List.getElem?_map] at h1
    cases hi : isC[k]? with
    | none => rw [hi] at h1; cases h1
    | some i => rw [hi] at h1; exact hP i q (Option.some.inj h1)
  refine va_callv (va_runV (As := As) (rest := rest) (b := h) (C := y.cls) ⟨hc.1, hc.2.1, hc.2.2.2.1, hc.2.2.2.2.1, hc.2.2.2.2.2.1⟩ hM ⟨cb_of hc.2.2.2.2.2.1 kal.1 hR, hc.2.2.2.2.2.1 _ kal.2.1, hc.2.2.2.2.2.1 _ kal.2.2⟩ ⟨bl_W, hy ▸ va_recv hK hPc hq he, fun U hU hW => ⟨rfl, by rw [hU], by rw [hU]; exact hPc, va_K.moved hW.alike hK, hDc.weaken (fun _ _ _ _ => trivial), by rw [hU]; exact hO, hN⟩⟩ rfl hn hl.1 rfl (lv_room hW) hd hs) hS (fun q _ h => hFc q h) hFc (fun u t H1 locs1 ht hvm hw hB hz1 hk1 hS1 => ?_)
  obtain ⟨hP1, hD1⟩ := hB
  rw [ht] at hP1
  obtain ⟨hP2, hD2⟩ := va_join (w1 := w1) hP hD isC isR hC (fm_some hRr) hnR hdis hk1 hFc hP1 hD1
  exact kk H1 locs1 hP2 hD2 hS1
end BASE

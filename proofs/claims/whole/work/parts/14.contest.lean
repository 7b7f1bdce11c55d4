abbrev R_X1_connects : Room := { frames := 0, cells := 0, slots := 0, locals := 0 }
def m_X1_connects (p0 : Int32) : Int32 := (if (p0 &&& (1 : Int32)) = (1 : Int32) then (1 : Int32) else (0 : Int32))
set_option maxHeartbeats 4000000 in
set_option maxRecDepth 100000 in
theorem c_X1_connects (l : Launch) (D : va_G) (C : Nat → ClassId) (p0 : Int32) (o : Int32) (hf : m_X1_connects p0 = o) : Met l yX1_connects (wl yX1_connects cX1_connects 1 (some .boolean)) R_X1_connects (PR [.int p0] D C ([] : va_W)) (vp_Si (fun r => r = o)) 0 0 (fun _ => False) := by
  refine Met_ofC (by decide) ?_
  intro p e s m args below meth c hc hv
  obtain ⟨rfl, hP, hK⟩ := hv
  have hx := hc.1
  have hb := hc.2.1
  have hown := hc.2.2.2.2.1
  have hts := hc.2.2.2.2.2.1
  refine en_F rfl (fun ls hl => ?_)
  have hl : lv_has ls 1 [(0, .int p0)] := hl
  refine lv_iload_n hx hb dX1_connects_0 rfl (lv_at hl 0 rfl) ?_
  refine lv_iconst (v := (1 : Int32)) hx hb dX1_connects_1 (by decide) ?_
  refine lv_iand hx hb dX1_connects_2 ?_
  refine lv_iconst (v := (1 : Int32)) hx hb dX1_connects_3 (by decide) ?_
  refine lv_icmp_ne (tgt := 11) hx hb dX1_connects_4 (by decide) (fun c1 => ?_) (fun c1 => ?_)
  · have hf := if_f hf c1
    refine lv_iconst (v := (0 : Int32)) hx hb dX1_connects_11 (by decide) ?_
    exact rRz hc rfl hf dX1_connects_12
  · have hf := if_t hf c1
    refine lv_iconst (v := (1 : Int32)) hx hb dX1_connects_7 (by decide) ?_
    refine lv_goto (tgt := 12) hx hb dX1_connects_8 (by decide) ?_
    exact rRz hc rfl hf dX1_connects_12
abbrev R_X1_length : Room := { frames := 0, cells := 0, slots := 0, locals := 0 }
def m_X1_length (p0 : Int32) : Int32 := (p0 >>> ((1 : Int32) &&& 31))
set_option maxHeartbeats 4000000 in
set_option maxRecDepth 100000 in
theorem c_X1_length (l : Launch) (D : va_G) (C : Nat → ClassId) (p0 : Int32) (o : Int32) (hf : m_X1_length p0 = o) : Met l yX1_length (wl yX1_length cX1_length 1 (some .int)) R_X1_length (PR [.int p0] D C ([] : va_W)) (vp_Si (fun r => r = o)) 0 0 (fun _ => False) := by
  refine Met_ofC (by decide) ?_
  intro p e s m args below meth c hc hv
  obtain ⟨rfl, hP, hK⟩ := hv
  have hx := hc.1
  have hb := hc.2.1
  have hown := hc.2.2.2.2.1
  have hts := hc.2.2.2.2.2.1
  refine en_F rfl (fun ls hl => ?_)
  have hl : lv_has ls 1 [(0, .int p0)] := hl
  refine lv_iload_n hx hb dX1_length_0 rfl (lv_at hl 0 rfl) ?_
  refine lv_iconst (v := (1 : Int32)) hx hb dX1_length_1 (by decide) ?_
  refine lv_ishr hx hb dX1_length_2 ?_
  exact rRi hc hf dX1_length_3
abbrev R_X1_arrange : Room := { frames := 0, cells := 0, slots := 0, locals := 0 }
def m_X1_arrange_c81   : Nat → Int32 → Int32 → Int64 → Int64 → (Nat → Int64) → (Nat → Int64) → Option (Int64 × Int64 × (Nat → Int64) × (Nat → Int64))
  | 0, _, _, _, _, _, _ => none
  | n + 1, v10, v11, o_from, o_to, o_spots, o_memo => (if (1641 : Int32) ≤ v11 then some (o_from, o_to, o_spots, o_memo) else (if v10 ≤ (v11 * (12 : Int32)) then some (o_from, o_to, o_spots, o_memo) else (if okI v11 1641 = true then (m_X1_arrange_c81   n v10 (v11 + (1 : Int32)) o_from o_to o_spots (vp_updL o_memo v11.toNatClampNeg (0 : Int64))) else none)))
set_option maxHeartbeats 4000000 in
set_option maxRecDepth 100000 in
theorem w_X1_arrange_c81 {p : Program} {l : Launch} {e : Env} {s : State} {m : MethodId} {args : Array Value} {below : List Frame} {meth : Method} {c : Code} {D : va_G} {C : Nat → ClassId} {A : Nat → Prop} {a0 : Nat} {a1 : Nat} {a2 : Nat} {p1 : Nat} {o : Int64 × Int64 × (Nat → Int64) × (Nat → Int64)} (hc : Cx p s m args meth c yX1_arrange cX1_arrange 12 none) (hK : va_K D vwCl (TY C) s) (hA : ∀ q : Nat, s.heap.size ≤ q → A q) (hO : va_P D vwCl ([] : va_W) s.heap) (hN : ∀ q ∈ ([] : va_W), ¬ A q.1) : ∀ (n : Nat), ∀ (v10 : Int32) (v11 : Int32) (o_from : Int64) (o_to : Int64) (o_spots : Nat → Int64) (o_memo : Nat → Int64), m_X1_arrange_c81   n v10 v11 o_from o_to o_spots o_memo = some o → ∀ (H : Heap) (locs : List Loc), va_P D vwCl (wX1 C a0 a1 a2 p1 o_from o_to o_spots o_memo) H → va_D A (wX1 C a0 a1 a2 p1 o_from o_to o_spots o_memo) → va_S A s.heap H locs → ∀ (ls : Array Slot), lv_has ls 12 [(0, .ref a0), (10, .int v10), (11, .int v11)] → W p l e R_X1_arrange s m args below meth c H locs 0 0 (MQ below (QWv D (wX1 C a0 a1 a2 p1 o.1 o.2.1 o.2.2.1 o.2.2.2) A) args s 0 0 A) (F0 m 81 ls []) := by
  have hx := hc.1
  have hb := hc.2.1
  have hown := hc.2.2.2.2.1
  have hts := hc.2.2.2.2.2.1
  intro n
  induction n with
  | zero =>
    intro v10 v11 o_from o_to o_spots o_memo hf
    exact no_some hf
  | succ n ih =>
    intro v10 v11 o_from o_to o_spots o_memo hf H locs hP hD hS ls hl
    refine lv_iload hx hb dX1_arrange_81 (lv_at hl 2 rfl) ?_
    refine lv_sipush (v := (1641 : Int32)) hx hb dX1_arrange_83 (by decide) ?_
    refine lv_icmp_ge (tgt := 113) hx hb dX1_arrange_86 (by decide) (fun c2 => ?_) (fun c2 => ?_)
    · have hf := if_t hf c2
      have hf := Option.some.inj hf
      subst hf
      exact rWv hc hP hD hS dX1_arrange_113
    · have hf := if_f hf c2
      refine lv_iload hx hb dX1_arrange_89 (lv_at hl 2 rfl) ?_
      refine lv_bipush (v := (12 : Int32)) hx hb dX1_arrange_91 (by decide) ?_
      refine lv_imul hx hb dX1_arrange_93 ?_
      refine lv_iload hx hb dX1_arrange_94 (lv_at hl 1 rfl) ?_
      refine lv_icmp_ge (tgt := 113) hx hb dX1_arrange_96 (by decide) (fun c3 => ?_) (fun c3 => ?_)
      · have hf := if_t hf c3
        have hf := Option.some.inj hf
        subst hf
        exact rWv hc hP hD hS dX1_arrange_113
      · have hf := if_f hf c3
        refine lv_aload_n hx hb dX1_arrange_99 rfl (lv_at hl 0 rfl) ?_
        refine va_get (D := D) (ci := 1) (v := .ref a2) (C := RX1) (T := TX1) (N := 5) hx hb hts inX1 hown hK hP 0 rfl rfl 4 (by decide) (hts _ q_125) (fun _ h9 => h9) rfl dX1_arrange_100 ?_
        refine lv_iload hx hb dX1_arrange_103 (lv_at hl 2 rfl) ?_
        refine lv_lconst (v := (0 : Int64)) hx hb dX1_arrange_105 (by decide) ?_
        obtain ⟨h4, hf⟩ := ok_t hf
        refine va_last hx hb hK hP hD hS 2 1 rfl rfl (okI_in h4) dX1_arrange_106 (fun H locs hP hD hS => ?_)
        have hP : va_P D vwCl (wX1 C a0 a1 a2 p1 o_from o_to o_spots (vp_updL o_memo v11.toNatClampNeg (0 : Int64))) H := hP
        have hD : va_D A (wX1 C a0 a1 a2 p1 o_from o_to o_spots (vp_updL o_memo v11.toNatClampNeg (0 : Int64))) := hD
        refine lv_iinc (v := (v11 + (1 : Int32))) (lv' := [(11, .int (v11 + (1 : Int32))), (0, .ref a0), (10, .int v10)]) hx hb dX1_arrange_107 hl (k := 2) rfl rfl (by decide) rfl (fun ls hl => ?_)
        refine lv_goto (tgt := 81) hx hb dX1_arrange_110 (by decide) ?_
        exact ih v10 (v11 + (1 : Int32)) o_from o_to o_spots (vp_updL o_memo v11.toNatClampNeg (0 : Int64)) hf _ _ hP hD hS ls (lv_sub hl [1, 2, 0] rfl)
def m_X1_arrange_c60  (k26 : Int64 → Int32 → Int32 → Int64 → Int64 → (Nat → Int64) → (Nat → Int64) → Option (Int64 × Int64 × (Nat → Int64) × (Nat → Int64))) (v8 : Int64) (v11 : Int32) (t0 : Int32) (t1 : Int32) (o_from : Int64) (o_to : Int64) (o_spots : Nat → Int64) (o_memo : Nat → Int64) : Option (Int64 × Int64 × (Nat → Int64) × (Nat → Int64)) := (k26 (v8 &&& (v8 - (1 : Int64))) (t1 * t0) (v11 + (1 : Int32)) o_from o_to o_spots o_memo)
set_option maxHeartbeats 4000000 in
set_option maxRecDepth 100000 in
theorem w_X1_arrange_c60 {p : Program} {l : Launch} {e : Env} {s : State} {m : MethodId} {args : Array Value} {below : List Frame} {meth : Method} {c : Code} {D : va_G} {C : Nat → ClassId} {A : Nat → Prop} {a0 : Nat} {a1 : Nat} {a2 : Nat} {p1 : Nat} {o : Int64 × Int64 × (Nat → Int64) × (Nat → Int64)} (hc : Cx p s m args meth c yX1_arrange cX1_arrange 12 none) (hK : va_K D vwCl (TY C) s) (hA : ∀ q : Nat, s.heap.size ≤ q → A q) (hO : va_P D vwCl ([] : va_W) s.heap) (hN : ∀ q ∈ ([] : va_W), ¬ A q.1) (k26 : Int64 → Int32 → Int32 → Int64 → Int64 → (Nat → Int64) → (Nat → Int64) → Option (Int64 × Int64 × (Nat → Int64) × (Nat → Int64))) (hk26 : ∀ (v8 : Int64) (v10 : Int32) (v11 : Int32) (o_from : Int64) (o_to : Int64) (o_spots : Nat → Int64) (o_memo : Nat → Int64), k26 v8 v10 v11 o_from o_to o_spots o_memo = some o → ∀ (H : Heap) (locs : List Loc), va_P D vwCl (wX1 C a0 a1 a2 p1 o_from o_to o_spots o_memo) H → va_D A (wX1 C a0 a1 a2 p1 o_from o_to o_spots o_memo) → va_S A s.heap H locs → ∀ (ls : Array Slot), lv_has ls 12 [(0, .ref a0), (8, .long v8), (10, .int v10), (11, .int v11)] → W p l e R_X1_arrange s m args below meth c H locs 0 0 (MQ below (QWv D (wX1 C a0 a1 a2 p1 o.1 o.2.1 o.2.2.1 o.2.2.2) A) args s 0 0 A) (F0 m 26 ls [])) : ∀ (v8 : Int64) (v11 : Int32) (t0 : Int32) (t1 : Int32) (o_from : Int64) (o_to : Int64) (o_spots : Nat → Int64) (o_memo : Nat → Int64), m_X1_arrange_c60  k26 v8 v11 t0 t1 o_from o_to o_spots o_memo = some o → ∀ (H : Heap) (locs : List Loc), va_P D vwCl (wX1 C a0 a1 a2 p1 o_from o_to o_spots o_memo) H → va_D A (wX1 C a0 a1 a2 p1 o_from o_to o_spots o_memo) → va_S A s.heap H locs → ∀ (ls : Array Slot), lv_has ls 12 [(0, .ref a0), (8, .long v8), (11, .int v11)] → W p l e R_X1_arrange s m args below meth c H locs 0 0 (MQ below (QWv D (wX1 C a0 a1 a2 p1 o.1 o.2.1 o.2.2.1 o.2.2.2) A) args s 0 0 A) (F0 m 60 ls [.int t0, .int t1]) := by
  have hx := hc.1
  have hb := hc.2.1
  have hown := hc.2.2.2.2.1
  have hts := hc.2.2.2.2.2.1
  intro v8 v11 t0 t1 o_from o_to o_spots o_memo hf H locs hP hD hS ls hl
  refine lv_imul hx hb dX1_arrange_60 ?_
  refine lv_istore (lv' := [(10, .int (t1 * t0)), (0, .ref a0), (8, .long v8), (11, .int v11)]) hx hb dX1_arrange_61 hl (by decide) rfl (fun ls hl => ?_)
  refine lv_lload hx hb dX1_arrange_63 (lv_at hl 2 rfl) ?_
  refine lv_lload hx hb dX1_arrange_65 (lv_at hl 2 rfl) ?_
  refine lv_lconst (v := (1 : Int64)) hx hb dX1_arrange_67 (by decide) ?_
  refine lv_lsub hx hb dX1_arrange_68 ?_
  refine lv_land hx hb dX1_arrange_69 ?_
  refine lv_lstore (lv' := [(8, .long (v8 &&& (v8 - (1 : Int64)))), (10, .int (t1 * t0)), (0, .ref a0), (11, .int v11)]) hx hb dX1_arrange_70 hl (by decide) rfl (fun ls hl => ?_)
  refine lv_iinc (v := (v11 + (1 : Int32))) (lv' := [(11, .int (v11 + (1 : Int32))), (8, .long (v8 &&& (v8 - (1 : Int64)))), (10, .int (t1 * t0)), (0, .ref a0)]) hx hb dX1_arrange_72 hl (k := 3) rfl rfl (by decide) rfl (fun ls hl => ?_)
  refine lv_goto (tgt := 26) hx hb dX1_arrange_75 (by decide) ?_
  exact hk26 (v8 &&& (v8 - (1 : Int64))) (t1 * t0) (v11 + (1 : Int32)) o_from o_to o_spots o_memo hf _ _ hP hD hS ls (lv_sub hl [3, 1, 2, 0] rfl)
def m_X1_arrange_c26   : Nat → Int64 → Int32 → Int32 → Int64 → Int64 → (Nat → Int64) → (Nat → Int64) → Option (Int64 × Int64 × (Nat → Int64) × (Nat → Int64))
  | 0, _, _, _, _, _, _, _ => none
  | n + 1, v8, v10, v11, o_from, o_to, o_spots, o_memo => (if (9 : Int32) ≤ v11 then (m_X1_arrange_c81 FU v10 (0 : Int32) o_from o_to o_spots o_memo) else (if okI v11 9 = true then (if v8 = (0 : Int64) then (m_X1_arrange_c60 (m_X1_arrange_c26   n) v8 v11 (1 : Int32) v10 o_from o_to (vp_updL o_spots v11.toNatClampNeg (v8 &&& (-v8))) o_memo) else (m_X1_arrange_c60 (m_X1_arrange_c26   n) v8 v11 (3 : Int32) v10 o_from o_to (vp_updL o_spots v11.toNatClampNeg (v8 &&& (-v8))) o_memo)) else none))
set_option maxHeartbeats 4000000 in
set_option maxRecDepth 100000 in
theorem w_X1_arrange_c26 {p : Program} {l : Launch} {e : Env} {s : State} {m : MethodId} {args : Array Value} {below : List Frame} {meth : Method} {c : Code} {D : va_G} {C : Nat → ClassId} {A : Nat → Prop} {a0 : Nat} {a1 : Nat} {a2 : Nat} {p1 : Nat} {o : Int64 × Int64 × (Nat → Int64) × (Nat → Int64)} (hc : Cx p s m args meth c yX1_arrange cX1_arrange 12 none) (hK : va_K D vwCl (TY C) s) (hA : ∀ q : Nat, s.heap.size ≤ q → A q) (hO : va_P D vwCl ([] : va_W) s.heap) (hN : ∀ q ∈ ([] : va_W), ¬ A q.1) : ∀ (n : Nat), ∀ (v8 : Int64) (v10 : Int32) (v11 : Int32) (o_from : Int64) (o_to : Int64) (o_spots : Nat → Int64) (o_memo : Nat → Int64), m_X1_arrange_c26   n v8 v10 v11 o_from o_to o_spots o_memo = some o → ∀ (H : Heap) (locs : List Loc), va_P D vwCl (wX1 C a0 a1 a2 p1 o_from o_to o_spots o_memo) H → va_D A (wX1 C a0 a1 a2 p1 o_from o_to o_spots o_memo) → va_S A s.heap H locs → ∀ (ls : Array Slot), lv_has ls 12 [(0, .ref a0), (8, .long v8), (10, .int v10), (11, .int v11)] → W p l e R_X1_arrange s m args below meth c H locs 0 0 (MQ below (QWv D (wX1 C a0 a1 a2 p1 o.1 o.2.1 o.2.2.1 o.2.2.2) A) args s 0 0 A) (F0 m 26 ls []) := by
  have hx := hc.1
  have hb := hc.2.1
  have hown := hc.2.2.2.2.1
  have hts := hc.2.2.2.2.2.1
  intro n
  induction n with
  | zero =>
    intro v8 v10 v11 o_from o_to o_spots o_memo hf
    exact no_some hf
  | succ n ih =>
    intro v8 v10 v11 o_from o_to o_spots o_memo hf H locs hP hD hS ls hl
    refine lv_iload hx hb dX1_arrange_26 (lv_at hl 3 rfl) ?_
    refine lv_bipush (v := (9 : Int32)) hx hb dX1_arrange_28 (by decide) ?_
    refine lv_icmp_ge (tgt := 78) hx hb dX1_arrange_30 (by decide) (fun c1 => ?_) (fun c1 => ?_)
    · have hf := if_t hf c1
      refine lv_iconst (v := (0 : Int32)) hx hb dX1_arrange_78 (by decide) ?_
      refine lv_istore (lv' := [(11, .int (0 : Int32)), (0, .ref a0), (8, .long v8), (10, .int v10)]) hx hb dX1_arrange_79 hl (by decide) rfl (fun ls hl => ?_)
      exact w_X1_arrange_c81 hc hK hA hO hN  FU v10 (0 : Int32) o_from o_to o_spots o_memo hf _ _ hP hD hS ls (lv_sub hl [1, 3, 0] rfl)
    · have hf := if_f hf c1
      refine lv_aload_n hx hb dX1_arrange_33 rfl (lv_at hl 0 rfl) ?_
      refine va_get (D := D) (ci := 1) (v := .ref a1) (C := RX1) (T := TX1) (N := 5) hx hb hts inX1 hown hK hP 0 rfl rfl 3 (by decide) (hts _ q_124) (fun _ h9 => h9) rfl dX1_arrange_34 ?_
      refine lv_iload hx hb dX1_arrange_37 (lv_at hl 3 rfl) ?_
      refine lv_lload hx hb dX1_arrange_39 (lv_at hl 1 rfl) ?_
      refine lv_lload hx hb dX1_arrange_41 (lv_at hl 1 rfl) ?_
      refine lv_lneg hx hb dX1_arrange_43 ?_
      refine lv_land hx hb dX1_arrange_44 ?_
      obtain ⟨h5, hf⟩ := ok_t hf
      refine va_last hx hb hK hP hD hS 1 1 rfl rfl (okI_in h5) dX1_arrange_45 (fun H locs hP hD hS => ?_)
      have hP : va_P D vwCl (wX1 C a0 a1 a2 p1 o_from o_to (vp_updL o_spots v11.toNatClampNeg (v8 &&& (-v8))) o_memo) H := hP
      have hD : va_D A (wX1 C a0 a1 a2 p1 o_from o_to (vp_updL o_spots v11.toNatClampNeg (v8 &&& (-v8))) o_memo) := hD
      refine lv_iload hx hb dX1_arrange_46 (lv_at hl 2 rfl) ?_
      refine lv_lload hx hb dX1_arrange_48 (lv_at hl 1 rfl) ?_
      refine lv_lconst (v := (0 : Int64)) hx hb dX1_arrange_50 (by decide) ?_
      refine lc_ne (tgt := 59) hx hb dX1_arrange_51 dX1_arrange_52 (by decide) (fun c6 => ?_) (fun c6 => ?_)
      · have hf := if_f hf c6
        refine lv_iconst (v := (3 : Int32)) hx hb dX1_arrange_59 (by decide) ?_
        exact w_X1_arrange_c60 hc hK hA hO hN (m_X1_arrange_c26   n) ih v8 v11 (3 : Int32) v10 o_from o_to (vp_updL o_spots v11.toNatClampNeg (v8 &&& (-v8))) o_memo hf _ _ hP hD hS ls (lv_sub hl [0, 1, 3] rfl)
      · have hf := if_t hf c6
        refine lv_iconst (v := (1 : Int32)) hx hb dX1_arrange_55 (by decide) ?_
        refine lv_goto (tgt := 60) hx hb dX1_arrange_56 (by decide) ?_
        exact w_X1_arrange_c60 hc hK hA hO hN (m_X1_arrange_c26   n) ih v8 v11 (1 : Int32) v10 o_from o_to (vp_updL o_spots v11.toNatClampNeg (v8 &&& (-v8))) o_memo hf _ _ hP hD hS ls (lv_sub hl [0, 1, 3] rfl)
def m_X1_arrange (o_spots : Nat → Int64) (o_memo : Nat → Int64) (p2 : Int64) (p3 : Int64) (p4 : Int64) : Option (Int64 × Int64 × (Nat → Int64) × (Nat → Int64)) := (m_X1_arrange_c26 FU p4 (1 : Int32) (0 : Int32) p2 p3 o_spots o_memo)
set_option maxHeartbeats 4000000 in
set_option maxRecDepth 100000 in
theorem c_X1_arrange (l : Launch) (D : va_G) (C : Nat → ClassId) (sz : Nat) (a0 : Nat) (a1 : Nat) (a2 : Nat) (r_o_board : Nat) (o_from : Int64) (o_to : Int64) (o_spots : Nat → Int64) (o_memo : Nat → Int64) (p1 : Nat) (p2 : Int64) (p3 : Int64) (p4 : Int64) (o : Int64 × Int64 × (Nat → Int64) × (Nat → Int64)) (hf : m_X1_arrange o_spots o_memo p2 p3 p4 = some o) : Met l yX1_arrange (wl yX1_arrange cX1_arrange 12 none) R_X1_arrange (PW [.ref a0, .ref p1, .long p2, .long p3, .long p4] D C sz (wX1 C a0 a1 a2 r_o_board o_from o_to o_spots o_memo) ([] : va_W)) (QWv D (wX1 C a0 a1 a2 p1 o.1 o.2.1 o.2.2.1 o.2.2.2) (va_A (wX1 C a0 a1 a2 r_o_board o_from o_to o_spots o_memo) sz)) 0 0 (va_A (wX1 C a0 a1 a2 r_o_board o_from o_to o_spots o_memo) sz) := by
  refine Met_ofC (by decide) ?_
  intro p e s m args below meth c hc hv
  obtain ⟨rfl, hsz, hP, hK, hD0, hO, hN0⟩ := hv
  subst hsz
  have hD := hD0.self (sz := s.heap.size)
  have hN : ∀ q ∈ ([] : va_W), ¬ va_A (wX1 C a0 a1 a2 r_o_board o_from o_to o_spots o_memo) s.heap.size q.1 := hN0
  generalize hAe : va_A (wX1 C a0 a1 a2 r_o_board o_from o_to o_spots o_memo) s.heap.size = A at hD hN ⊢
  have hA : ∀ q : Nat, s.heap.size ≤ q → A q := fun q h => by rw [← hAe]; exact Or.inr h
  have hS : va_S A s.heap s.heap [] := va_S.rf
  have hx := hc.1
  have hb := hc.2.1
  have hown := hc.2.2.2.2.1
  have hts := hc.2.2.2.2.2.1
  refine en_F rfl (fun ls hl => ?_)
  have hl : lv_has ls 12 [(0, .ref a0), (1, .ref p1), (2, .long p2), (4, .long p3), (6, .long p4)] := hl
  refine lv_aload_n hx hb dX1_arrange_0 rfl (lv_at hl 0 rfl) ?_
  refine lv_aload_n hx hb dX1_arrange_1 rfl (lv_at hl 1 rfl) ?_
  refine va_put (D := D) (ci := 1) (v := .ref p1) (ty := .object "HexWorkbench$Board") (C := RX1) (T := TX1) (N := 5) hx hb hts inX1 tyX1 tyX1_ok nmX1 hown hK hP hD hS 0 rfl rfl 0 (by decide) (hts _ q_121) (fun _ h9 => h9) rfl (by decide +kernel) rfl rfl (Nat.le_of_ble_eq_true rfl) dX1_arrange_2 (fun H locs hP hD hS => ?_)
  have hP : va_P D vwCl (wX1 C a0 a1 a2 p1 o_from o_to o_spots o_memo) H := hP
  have hD : va_D A (wX1 C a0 a1 a2 p1 o_from o_to o_spots o_memo) := hD
  refine lv_aload_n hx hb dX1_arrange_5 rfl (lv_at hl 0 rfl) ?_
  refine lv_lload_n hx hb dX1_arrange_6 rfl (lv_at hl 2 rfl) ?_
  refine va_put (D := D) (ci := 1) (v := .long p2) (ty := .long) (C := RX1) (T := TX1) (N := 5) hx hb hts inX1 tyX1 tyX1_ok nmX1 hown hK hP hD hS 0 rfl rfl 1 (by decide) (hts _ q_122) (fun _ h9 => h9) rfl (by decide +kernel) rfl rfl (Nat.le_of_ble_eq_true rfl) dX1_arrange_7 (fun H locs hP hD hS => ?_)
  have hP : va_P D vwCl (wX1 C a0 a1 a2 p1 p2 o_to o_spots o_memo) H := hP
  have hD : va_D A (wX1 C a0 a1 a2 p1 p2 o_to o_spots o_memo) := hD
  refine lv_aload_n hx hb dX1_arrange_10 rfl (lv_at hl 0 rfl) ?_
  refine lv_lload hx hb dX1_arrange_11 (lv_at hl 3 rfl) ?_
  refine va_put (D := D) (ci := 1) (v := .long p3) (ty := .long) (C := RX1) (T := TX1) (N := 5) hx hb hts inX1 tyX1 tyX1_ok nmX1 hown hK hP hD hS 0 rfl rfl 2 (by decide) (hts _ q_123) (fun _ h9 => h9) rfl (by decide +kernel) rfl rfl (Nat.le_of_ble_eq_true rfl) dX1_arrange_13 (fun H locs hP hD hS => ?_)
  have hP : va_P D vwCl (wX1 C a0 a1 a2 p1 p2 p3 o_spots o_memo) H := hP
  have hD : va_D A (wX1 C a0 a1 a2 p1 p2 p3 o_spots o_memo) := hD
  refine lv_lload hx hb dX1_arrange_16 (lv_at hl 4 rfl) ?_
  refine lv_lstore (lv' := [(8, .long p4), (0, .ref a0), (1, .ref p1), (2, .long p2), (4, .long p3), (6, .long p4)]) hx hb dX1_arrange_18 hl (by decide) rfl (fun ls hl => ?_)
  refine lv_iconst (v := (1 : Int32)) hx hb dX1_arrange_20 (by decide) ?_
  refine lv_istore (lv' := [(10, .int (1 : Int32)), (8, .long p4), (0, .ref a0), (1, .ref p1), (2, .long p2), (4, .long p3), (6, .long p4)]) hx hb dX1_arrange_21 hl (by decide) rfl (fun ls hl => ?_)
  refine lv_iconst (v := (0 : Int32)) hx hb dX1_arrange_23 (by decide) ?_
  refine lv_istore (lv' := [(11, .int (0 : Int32)), (10, .int (1 : Int32)), (8, .long p4), (0, .ref a0), (1, .ref p1), (2, .long p2), (4, .long p3), (6, .long p4)]) hx hb dX1_arrange_24 hl (by decide) rfl (fun ls hl => ?_)
  exact w_X1_arrange_c26 hc hK hA hO hN  FU p4 (1 : Int32) (0 : Int32) p2 p3 o_spots o_memo hf _ _ hP hD hS ls (lv_sub hl [3, 2, 1, 0] rfl)
abbrev R_X1_better : Room := { frames := 1, cells := 0, slots := 0, locals := 21 }
def m_X1_better (p0 : Int32) (p1 : Int32) (p2 : Int32) : Int32 := (if (m_X1_connects p0) = (m_X1_connects p1) then (if (m_X1_connects p1) = p2 then (jmin p0 p1) else (jmax p0 p1)) else (if (m_X1_connects p1) = p2 then p1 else p0))
set_option maxHeartbeats 4000000 in
set_option maxRecDepth 100000 in
theorem c_X1_better (l : Launch) (D : va_G) (C : Nat → ClassId) (p0 : Int32) (p1 : Int32) (p2 : Int32) (o : Int32) (hf : m_X1_better p0 p1 p2 = o) : Met l yX1_better (wl yX1_better cX1_better 3 (some .int)) R_X1_better (PR [.int p0, .int p1, .int p2] D C ([] : va_W)) (vp_Si (fun r => r = o)) 0 0 (fun _ => False) := by
  refine Met_ofC (by decide) ?_
  intro p e s m args below meth c hc hv
  obtain ⟨rfl, hP, hK⟩ := hv
  have hx := hc.1
  have hb := hc.2.1
  have hown := hc.2.2.2.2.1
  have hts := hc.2.2.2.2.2.1
  refine en_F rfl (fun ls hl => ?_)
  have hl : lv_has ls 3 [(0, .int p0), (1, .int p1), (2, .int p2)] := hl
  refine lv_iload_n hx hb dX1_better_0 rfl (lv_at hl 0 rfl) ?_
  refine rcSi (As := [.int p0]) (rest := []) hc k_X1_60 (c_X1_connects l D C p0  _ rfl) ⟨rfl, rfl, Nat.le_of_ble_eq_true rfl, Nat.le_of_ble_eq_true rfl⟩ (hP.sub [] rfl) hK hl rfl rfl (Nat.le_of_ble_eq_true rfl) ⟨Nat.zero_le _, Nat.zero_le _⟩ dX1_better_1 ?_
  refine lv_iload_n hx hb dX1_better_4 rfl (lv_at hl 1 rfl) ?_
  refine rcSi (As := [.int p1]) (rest := [.int (m_X1_connects p0)]) hc k_X1_60 (c_X1_connects l D C p1  _ rfl) ⟨rfl, rfl, Nat.le_of_ble_eq_true rfl, Nat.le_of_ble_eq_true rfl⟩ (hP.sub [] rfl) hK hl rfl rfl (Nat.le_of_ble_eq_true rfl) ⟨Nat.zero_le _, Nat.zero_le _⟩ dX1_better_5 ?_
  refine lv_icmp_eq (tgt := 25) hx hb dX1_better_8 (by decide) (fun c1 => ?_) (fun c1 => ?_)
  · have hf := if_t hf c1
    refine lv_iload_n hx hb dX1_better_25 rfl (lv_at hl 1 rfl) ?_
    refine rcSi (As := [.int p1]) (rest := []) hc k_X1_60 (c_X1_connects l D C p1  _ rfl) ⟨rfl, rfl, Nat.le_of_ble_eq_true rfl, Nat.le_of_ble_eq_true rfl⟩ (hP.sub [] rfl) hK hl rfl rfl (Nat.le_of_ble_eq_true rfl) ⟨Nat.zero_le _, Nat.zero_le _⟩ dX1_better_26 ?_
    refine lv_iload_n hx hb dX1_better_29 rfl (lv_at hl 2 rfl) ?_
    refine lv_icmp_ne (tgt := 41) hx hb dX1_better_30 (by decide) (fun c2 => ?_) (fun c2 => ?_)
    · have hf := if_f hf c2
      refine lv_iload_n hx hb dX1_better_41 rfl (lv_at hl 0 rfl) ?_
      refine lv_iload_n hx hb dX1_better_42 rfl (lv_at hl 1 rfl) ?_
      refine va_mmax hx hb (hc.2.2.2.1.trans hl.1.symm) hown (hts _ q_482) (hts _ q_483) (hts _ q_9) (hts _ q_484) (Nat.le_of_ble_eq_true rfl) (Nat.le_of_ble_eq_true rfl) (Nat.zero_le _) (Nat.zero_le _) dX1_better_43 ?_
      exact rRi hc hf dX1_better_46
    · have hf := if_t hf c2
      refine lv_iload_n hx hb dX1_better_33 rfl (lv_at hl 0 rfl) ?_
      refine lv_iload_n hx hb dX1_better_34 rfl (lv_at hl 1 rfl) ?_
      refine va_mmin hx hb (hc.2.2.2.1.trans hl.1.symm) hown (hts _ q_481) (hts _ q_410) (hts _ q_9) (hts _ q_411) (Nat.le_of_ble_eq_true rfl) (Nat.le_of_ble_eq_true rfl) (Nat.zero_le _) (Nat.zero_le _) dX1_better_35 ?_
      refine lv_goto (tgt := 46) hx hb dX1_better_38 (by decide) ?_
      exact rRi hc hf dX1_better_46
  · have hf := if_f hf c1
    refine lv_iload_n hx hb dX1_better_11 rfl (lv_at hl 1 rfl) ?_
    refine rcSi (As := [.int p1]) (rest := []) hc k_X1_60 (c_X1_connects l D C p1  _ rfl) ⟨rfl, rfl, Nat.le_of_ble_eq_true rfl, Nat.le_of_ble_eq_true rfl⟩ (hP.sub [] rfl) hK hl rfl rfl (Nat.le_of_ble_eq_true rfl) ⟨Nat.zero_le _, Nat.zero_le _⟩ dX1_better_12 ?_
    refine lv_iload_n hx hb dX1_better_15 rfl (lv_at hl 2 rfl) ?_
    refine lv_icmp_ne (tgt := 23) hx hb dX1_better_16 (by decide) (fun c3 => ?_) (fun c3 => ?_)
    · have hf := if_f hf c3
      refine lv_iload_n hx hb dX1_better_23 rfl (lv_at hl 0 rfl) ?_
      exact rRi hc hf dX1_better_24
    · have hf := if_t hf c3
      refine lv_iload_n hx hb dX1_better_19 rfl (lv_at hl 1 rfl) ?_
      refine lv_goto (tgt := 24) hx hb dX1_better_20 (by decide) ?_
      exact rRi hc hf dX1_better_24
abbrev R_X1_recall : Room := { frames := 0, cells := 0, slots := 0, locals := 0 }
def m_X1_recall (o_memo : Nat → Int64) (p1 : Int32) : Option (Int32) := (if p1 < 0 then some (0 : Int32) else (if (p1 / (12 : Int32)) < (1641 : Int32) then (if okI (p1 / (12 : Int32)) 1641 = true then some ((jushr (o_memo (p1 / (12 : Int32)).toNatClampNeg) ((jirem p1 (12 : Int32)) * (5 : Int32))).toInt32 &&& (31 : Int32)) else none) else some (0 : Int32)))
set_option maxHeartbeats 4000000 in
set_option maxRecDepth 100000 in
theorem c_X1_recall (l : Launch) (D : va_G) (C : Nat → ClassId) (z0 : Nat) (z1 : Nat) (r_o_board : Nat) (o_from : Int64) (o_to : Int64) (r_o_spots : Nat) (o_memo : Nat → Int64) (p1 : Int32) (o : Int32) (hf : m_X1_recall o_memo p1 = some o) : Met l yX1_recall (wl yX1_recall cX1_recall 3 (some .int)) R_X1_recall (PR [.ref z0, .int p1] D C [cX1 z0 r_o_board o_from o_to r_o_spots z1, aJ C z1 1641 o_memo]) (vp_Si (fun r => r = o)) 0 0 (fun _ => False) := by
  refine Met_ofC (by decide) ?_
  intro p e s m args below meth c hc hv
  obtain ⟨rfl, hP, hK⟩ := hv
  have hx := hc.1
  have hb := hc.2.1
  have hown := hc.2.2.2.2.1
  have hts := hc.2.2.2.2.2.1
  refine en_F rfl (fun ls hl => ?_)
  have hl : lv_has ls 3 [(0, .ref z0), (1, .int p1)] := hl
  refine lv_iload_n hx hb dX1_recall_0 rfl (lv_at hl 1 rfl) ?_
  refine lv_bipush (v := (12 : Int32)) hx hb dX1_recall_1 (by decide) ?_
  refine lv_idiv hx hb dX1_recall_3 (by decide) ?_
  refine lv_istore_n (lv' := [(2, .int (p1 / (12 : Int32))), (0, .ref z0), (1, .int p1)]) hx hb dX1_recall_4 rfl hl (by decide) rfl (fun ls hl => ?_)
  refine lv_iload_n hx hb dX1_recall_5 rfl (lv_at hl 2 rfl) ?_
  refine lv_if_lt (tgt := 16) hx hb dX1_recall_6 (by decide) (fun c1 => ?_) (fun c1 => ?_)
  · have hf := if_t hf c1
    refine lv_iconst (v := (0 : Int32)) hx hb dX1_recall_16 (by decide) ?_
    exact rRi hc (Option.some.inj hf) dX1_recall_17
  · have hf := if_f hf c1
    refine lv_iload_n hx hb dX1_recall_9 rfl (lv_at hl 0 rfl) ?_
    refine lv_sipush (v := (1641 : Int32)) hx hb dX1_recall_10 (by decide) ?_
    refine lv_icmp_lt (tgt := 18) hx hb dX1_recall_13 (by decide) (fun c2 => ?_) (fun c2 => ?_)
    · have hf := if_t hf c2
      refine lv_aload_n hx hb dX1_recall_18 rfl (lv_at hl 1 rfl) ?_
      refine va_get (D := D) (ci := 1) (v := .ref z1) (C := RX1) (T := TX1) (N := 5) hx hb hts inX1 hown hK hP 0 rfl rfl 4 (by decide) (hts _ q_125) (fun _ h9 => h9) rfl dX1_recall_19 ?_
      refine lv_iload_n hx hb dX1_recall_22 rfl (lv_at hl 0 rfl) ?_
      obtain ⟨h3, hf⟩ := ok_t hf
      refine va_lald hx hb hK hP 1 1 rfl rfl (okI_in h3) dX1_recall_23 ?_
      refine lv_iload_n hx hb dX1_recall_24 rfl (lv_at hl 2 rfl) ?_
      refine lv_bipush (v := (12 : Int32)) hx hb dX1_recall_25 (by decide) ?_
      refine lv_irem hx hb dX1_recall_27 (by decide) ?_
      refine lv_iconst (v := (5 : Int32)) hx hb dX1_recall_28 (by decide) ?_
      refine lv_imul hx hb dX1_recall_29 ?_
      refine lv_lushr (v := (jushr (o_memo (p1 / (12 : Int32)).toNatClampNeg) ((jirem p1 (12 : Int32)) * (5 : Int32)))) hx hb dX1_recall_30 rfl ?_
      refine lv_l2i (v := (jushr (o_memo (p1 / (12 : Int32)).toNatClampNeg) ((jirem p1 (12 : Int32)) * (5 : Int32))).toInt32) hx hb dX1_recall_31 rfl ?_
      refine lv_bipush (v := (31 : Int32)) hx hb dX1_recall_32 (by decide) ?_
      refine lv_iand hx hb dX1_recall_34 ?_
      exact rRi hc (Option.some.inj hf) dX1_recall_35
    · have hf := if_f hf c2
      refine lv_iconst (v := (0 : Int32)) hx hb dX1_recall_16 (by decide) ?_
      exact rRi hc (Option.some.inj hf) dX1_recall_17
abbrev R_X1_remember : Room := { frames := 0, cells := 0, slots := 0, locals := 0 }
def m_X1_remember (o_memo : Nat → Int64) (p1 : Int32) (p2 : Int32) : Option ((Nat → Int64)) := (if p1 < 0 then some o_memo else (if (1641 : Int32) ≤ (p1 / (12 : Int32)) then some o_memo else (if okI (p1 / (12 : Int32)) 1641 = true then (if okI (p1 / (12 : Int32)) 1641 = true then some (vp_updL o_memo (p1 / (12 : Int32)).toNatClampNeg ((o_memo (p1 / (12 : Int32)).toNatClampNeg) ||| (jshl p2.toInt64 ((jirem p1 (12 : Int32)) * (5 : Int32))))) else none) else none)))
set_option maxHeartbeats 4000000 in
set_option maxRecDepth 100000 in
theorem c_X1_remember (l : Launch) (D : va_G) (C : Nat → ClassId) (sz : Nat) (a0 : Nat) (a1 : Nat) (a2 : Nat) (r_o_board : Nat) (o_from : Int64) (o_to : Int64) (o_spots : Nat → Int64) (o_memo : Nat → Int64) (p1 : Int32) (p2 : Int32) (o : (Nat → Int64)) (hf : m_X1_remember o_memo p1 p2 = some o) : Met l yX1_remember (wl yX1_remember cX1_remember 4 none) R_X1_remember (PW [.ref a0, .int p1, .int p2] D C sz (wX1 C a0 a1 a2 r_o_board o_from o_to o_spots o_memo) ([] : va_W)) (QWv D (wX1 C a0 a1 a2 r_o_board o_from o_to o_spots o) (va_A (wX1 C a0 a1 a2 r_o_board o_from o_to o_spots o_memo) sz)) 0 0 (va_A (wX1 C a0 a1 a2 r_o_board o_from o_to o_spots o_memo) sz) := by
  refine Met_ofC (by decide) ?_
  intro p e s m args below meth c hc hv
  obtain ⟨rfl, hsz, hP, hK, hD0, hO, hN0⟩ := hv
  subst hsz
  have hD := hD0.self (sz := s.heap.size)
  have hN : ∀ q ∈ ([] : va_W), ¬ va_A (wX1 C a0 a1 a2 r_o_board o_from o_to o_spots o_memo) s.heap.size q.1 := hN0
  generalize hAe : va_A (wX1 C a0 a1 a2 r_o_board o_from o_to o_spots o_memo) s.heap.size = A at hD hN ⊢
  have hA : ∀ q : Nat, s.heap.size ≤ q → A q := fun q h => by rw [← hAe]; exact Or.inr h
  have hS : va_S A s.heap s.heap [] := va_S.rf
  have hx := hc.1
  have hb := hc.2.1
  have hown := hc.2.2.2.2.1
  have hts := hc.2.2.2.2.2.1
  refine en_F rfl (fun ls hl => ?_)
  have hl : lv_has ls 4 [(0, .ref a0), (1, .int p1), (2, .int p2)] := hl
  refine lv_iload_n hx hb dX1_remember_0 rfl (lv_at hl 1 rfl) ?_
  refine lv_bipush (v := (12 : Int32)) hx hb dX1_remember_1 (by decide) ?_
  refine lv_idiv hx hb dX1_remember_3 (by decide) ?_
  refine lv_istore_n (lv' := [(3, .int (p1 / (12 : Int32))), (0, .ref a0), (1, .int p1), (2, .int p2)]) hx hb dX1_remember_4 rfl hl (by decide) rfl (fun ls hl => ?_)
  refine lv_iload_n hx hb dX1_remember_5 rfl (lv_at hl 2 rfl) ?_
  refine lv_if_lt (tgt := 34) hx hb dX1_remember_6 (by decide) (fun c1 => ?_) (fun c1 => ?_)
  · have hf := if_t hf c1
    have hf := Option.some.inj hf
    subst hf
    exact rWv hc hP hD hS dX1_remember_34
  · have hf := if_f hf c1
    refine lv_iload_n hx hb dX1_remember_9 rfl (lv_at hl 0 rfl) ?_
    refine lv_sipush (v := (1641 : Int32)) hx hb dX1_remember_10 (by decide) ?_
    refine lv_icmp_ge (tgt := 34) hx hb dX1_remember_13 (by decide) (fun c2 => ?_) (fun c2 => ?_)
    · have hf := if_t hf c2
      have hf := Option.some.inj hf
      subst hf
      exact rWv hc hP hD hS dX1_remember_34
    · have hf := if_f hf c2
      refine lv_aload_n hx hb dX1_remember_16 rfl (lv_at hl 1 rfl) ?_
      refine va_get (D := D) (ci := 1) (v := .ref a2) (C := RX1) (T := TX1) (N := 5) hx hb hts inX1 hown hK hP 0 rfl rfl 4 (by decide) (hts _ q_125) (fun _ h9 => h9) rfl dX1_remember_17 ?_
      refine lv_iload_n hx hb dX1_remember_20 rfl (lv_at hl 0 rfl) ?_
      refine lv_dup2_11 hx hb dX1_remember_21 rfl rfl ?_
      obtain ⟨h3, hf⟩ := ok_t hf
      refine va_lald hx hb hK hP 2 1 rfl rfl (okI_in h3) dX1_remember_22 ?_
      refine lv_iload_n hx hb dX1_remember_23 rfl (lv_at hl 3 rfl) ?_
      refine lv_i2l (v := p2.toInt64) hx hb dX1_remember_24 rfl ?_
      refine lv_iload_n hx hb dX1_remember_25 rfl (lv_at hl 2 rfl) ?_
      refine lv_bipush (v := (12 : Int32)) hx hb dX1_remember_26 (by decide) ?_
      refine lv_irem hx hb dX1_remember_28 (by decide) ?_
      refine lv_iconst (v := (5 : Int32)) hx hb dX1_remember_29 (by decide) ?_
      refine lv_imul hx hb dX1_remember_30 ?_
      refine lv_lshl (v := (jshl p2.toInt64 ((jirem p1 (12 : Int32)) * (5 : Int32)))) hx hb dX1_remember_31 rfl ?_
      refine lv_lor hx hb dX1_remember_32 ?_
      obtain ⟨h4, hf⟩ := ok_t hf
      refine va_last hx hb hK hP hD hS 2 1 rfl rfl (okI_in h4) dX1_remember_33 (fun H locs hP hD hS => ?_)
      have hP : va_P D vwCl (wX1 C a0 a1 a2 r_o_board o_from o_to o_spots (vp_updL o_memo (p1 / (12 : Int32)).toNatClampNeg ((o_memo (p1 / (12 : Int32)).toNatClampNeg) ||| (jshl p2.toInt64 ((jirem p1 (12 : Int32)) * (5 : Int32)))))) H := hP
      have hD : va_D A (wX1 C a0 a1 a2 r_o_board o_from o_to o_spots (vp_updL o_memo (p1 / (12 : Int32)).toNatClampNeg ((o_memo (p1 / (12 : Int32)).toNatClampNeg) ||| (jshl p2.toInt64 ((jirem p1 (12 : Int32)) * (5 : Int32)))))) := hD
      have hf := Option.some.inj hf
      subst hf
      exact rWv hc hP hD hS dX1_remember_34
abbrev R_X1_outcome (d9 : Nat) : Room := { frames := 2 * d9 + 10, cells := 0, slots := 0, locals := 100 * d9 + 500 }
abbrev R_X1_bestOutcome (d9 : Nat) : Room := { frames := 2 * d9 + 11, cells := 0, slots := 0, locals := 100 * d9 + 550 }
def m_X1_bestOutcome_c126  (k18 : Int32 → Int32 → Int32 → (Nat → Int64) → Option (Int32 × (Nat → Int64))) (v8 : Int32) (v9 : Int32) (v10 : Int32) (o_memo : Nat → Int64) : Option (Int32 × (Nat → Int64)) := (k18 v8 v9 (v10 + (1 : Int32)) o_memo)
set_option maxHeartbeats 4000000 in
set_option maxRecDepth 100000 in
theorem w_X1_bestOutcome_c126 {p : Program} {l : Launch} {e : Env} {s : State} {m : MethodId} {args : Array Value} {below : List Frame} {meth : Method} {c : Code} {D : va_G} {C : Nat → ClassId} {A : Nat → Prop} {tp : Nat} {a0 : Nat} {a1 : Nat} {a2 : Nat} {z0 : Nat} {o_from : Int64} {o_to : Int64} {o_spots : Nat → Int64} {o_board_size : Int32} {o_board_cells : Int32} {o_board_all : Int64} {o_board_upper : Int64} {o_board_lower : Int64} {o_board_left : Int64} {o_board_right : Int64} {p1 : Int64} {p2 : Int64} {p3 : Int32} {p4 : Int32} {p5 : Int32} {d9 : Nat} {oc : Int64 → Int64 → (Nat → Int64) → (Nat → Int64) → Int32 → Int32 → Int64 → Int64 → Int64 → Int64 → Int64 → Int32 → Int32 → Int32 → Option (Int32 × (Nat → Int64))} {o : Int32 × (Nat → Int64)} (hc : Cx p s m args meth c yX1_bestOutcome cX1_bestOutcome 14 (some .int)) (hK : va_K D vwCl (TY C) s) (hA : ∀ q : Nat, s.heap.size ≤ q → A q) (hO : va_P D vwCl [cX0 z0 o_board_size o_board_cells o_board_all o_board_upper o_board_lower o_board_left o_board_right] s.heap) (hN : ∀ q ∈ [cX0 z0 o_board_size o_board_cells o_board_all o_board_upper o_board_lower o_board_left o_board_right], ¬ A q.1) (hT : Xt tp A s s.heap) (hoc : ∀ (sz : Nat) (a0 : Nat) (a1 : Nat) (a2 : Nat) (z0 : Nat) (o_from : Int64) (o_to : Int64) (o_spots : Nat → Int64) (o_memo : Nat → Int64) (o_board_size : Int32) (o_board_cells : Int32) (o_board_all : Int64) (o_board_upper : Int64) (o_board_lower : Int64) (o_board_left : Int64) (o_board_right : Int64) (p1 : Int64) (p2 : Int64) (p3 : Int32) (p4 : Int32) (p5 : Int32) (o : Int32 × (Nat → Int64)), oc o_from o_to o_spots o_memo o_board_size o_board_cells o_board_all o_board_left o_board_right p1 p2 p3 p4 p5 = some o → Met l yX1_outcome (wl yX1_outcome cX1_outcome 9 (some .int)) (R_X1_outcome d9) (PWX [.ref a0, .long p1, .long p2, .int p3, .int p4, .int p5] D C tp sz (wX1 C a0 a1 a2 z0 o_from o_to o_spots o_memo) [cX0 z0 o_board_size o_board_cells o_board_all o_board_upper o_board_lower o_board_left o_board_right]) (QWi D o.1 (wX1 C a0 a1 a2 z0 o_from o_to o_spots o.2) (va_A (wX1 C a0 a1 a2 z0 o_from o_to o_spots o_memo) sz)) 0 0 (va_A (wX1 C a0 a1 a2 z0 o_from o_to o_spots o_memo) sz)) (k18 : Int32 → Int32 → Int32 → (Nat → Int64) → Option (Int32 × (Nat → Int64))) (hk18 : ∀ (v8 : Int32) (v9 : Int32) (v10 : Int32) (o_memo : Nat → Int64), k18 v8 v9 v10 o_memo = some o → ∀ (H : Heap) (locs : List Loc), va_P D vwCl (wX1 C a0 a1 a2 z0 o_from o_to o_spots o_memo) H → va_D A (wX1 C a0 a1 a2 z0 o_from o_to o_spots o_memo) → va_S A s.heap H locs → ∀ (ls : Array Slot), lv_has ls 14 [(0, .ref a0), (1, .long p1), (3, .long p2), (5, .int p3), (6, .int p4), (7, .int p5), (8, .int v8), (9, .int v9), (10, .int v10)] → W p l e (R_X1_bestOutcome d9) s m args below meth c H locs 0 0 (MQ below (QWi D o.1 (wX1 C a0 a1 a2 z0 o_from o_to o_spots o.2) A) args s 0 0 A) (F0 m 18 ls [])) : ∀ (v8 : Int32) (v9 : Int32) (v10 : Int32) (o_memo : Nat → Int64), m_X1_bestOutcome_c126  k18 v8 v9 v10 o_memo = some o → ∀ (H : Heap) (locs : List Loc), va_P D vwCl (wX1 C a0 a1 a2 z0 o_from o_to o_spots o_memo) H → va_D A (wX1 C a0 a1 a2 z0 o_from o_to o_spots o_memo) → va_S A s.heap H locs → ∀ (ls : Array Slot), lv_has ls 14 [(0, .ref a0), (1, .long p1), (3, .long p2), (5, .int p3), (6, .int p4), (7, .int p5), (8, .int v8), (9, .int v9), (10, .int v10)] → W p l e (R_X1_bestOutcome d9) s m args below meth c H locs 0 0 (MQ below (QWi D o.1 (wX1 C a0 a1 a2 z0 o_from o_to o_spots o.2) A) args s 0 0 A) (F0 m 126 ls []) := by
  have hx := hc.1
  have hb := hc.2.1
  have hown := hc.2.2.2.2.1
  have hts := hc.2.2.2.2.2.1
  intro v8 v9 v10 o_memo hf H locs hP hD hS ls hl
  refine lv_iinc (v := (v10 + (1 : Int32))) (lv' := [(10, .int (v10 + (1 : Int32))), (0, .ref a0), (1, .long p1), (3, .long p2), (5, .int p3), (6, .int p4), (7, .int p5), (8, .int v8), (9, .int v9)]) hx hb dX1_bestOutcome_126 hl (k := 8) rfl rfl (by decide) rfl (fun ls hl => ?_)
  refine lv_goto (tgt := 18) hx hb dX1_bestOutcome_129 (by decide) ?_
  exact hk18 v8 v9 (v10 + (1 : Int32)) o_memo hf _ _ hP hD hS ls (lv_sub hl [1, 2, 3, 4, 5, 6, 7, 8, 0] rfl)
def m_X1_bestOutcome_c124  (k18 : Int32 → Int32 → Int32 → (Nat → Int64) → Option (Int32 × (Nat → Int64))) (v9 : Int32) (v10 : Int32) (t0 : Int32) (o_memo : Nat → Int64) : Option (Int32 × (Nat → Int64)) := (m_X1_bestOutcome_c126 k18 t0 v9 v10 o_memo)
set_option maxHeartbeats 4000000 in
set_option maxRecDepth 100000 in
theorem w_X1_bestOutcome_c124 {p : Program} {l : Launch} {e : Env} {s : State} {m : MethodId} {args : Array Value} {below : List Frame} {meth : Method} {c : Code} {D : va_G} {C : Nat → ClassId} {A : Nat → Prop} {tp : Nat} {a0 : Nat} {a1 : Nat} {a2 : Nat} {z0 : Nat} {o_from : Int64} {o_to : Int64} {o_spots : Nat → Int64} {o_board_size : Int32} {o_board_cells : Int32} {o_board_all : Int64} {o_board_upper : Int64} {o_board_lower : Int64} {o_board_left : Int64} {o_board_right : Int64} {p1 : Int64} {p2 : Int64} {p3 : Int32} {p4 : Int32} {p5 : Int32} {d9 : Nat} {oc : Int64 → Int64 → (Nat → Int64) → (Nat → Int64) → Int32 → Int32 → Int64 → Int64 → Int64 → Int64 → Int64 → Int32 → Int32 → Int32 → Option (Int32 × (Nat → Int64))} {o : Int32 × (Nat → Int64)} (hc : Cx p s m args meth c yX1_bestOutcome cX1_bestOutcome 14 (some .int)) (hK : va_K D vwCl (TY C) s) (hA : ∀ q : Nat, s.heap.size ≤ q → A q) (hO : va_P D vwCl [cX0 z0 o_board_size o_board_cells o_board_all o_board_upper o_board_lower o_board_left o_board_right] s.heap) (hN : ∀ q ∈ [cX0 z0 o_board_size o_board_cells o_board_all o_board_upper o_board_lower o_board_left o_board_right], ¬ A q.1) (hT : Xt tp A s s.heap) (hoc : ∀ (sz : Nat) (a0 : Nat) (a1 : Nat) (a2 : Nat) (z0 : Nat) (o_from : Int64) (o_to : Int64) (o_spots : Nat → Int64) (o_memo : Nat → Int64) (o_board_size : Int32) (o_board_cells : Int32) (o_board_all : Int64) (o_board_upper : Int64) (o_board_lower : Int64) (o_board_left : Int64) (o_board_right : Int64) (p1 : Int64) (p2 : Int64) (p3 : Int32) (p4 : Int32) (p5 : Int32) (o : Int32 × (Nat → Int64)), oc o_from o_to o_spots o_memo o_board_size o_board_cells o_board_all o_board_left o_board_right p1 p2 p3 p4 p5 = some o → Met l yX1_outcome (wl yX1_outcome cX1_outcome 9 (some .int)) (R_X1_outcome d9) (PWX [.ref a0, .long p1, .long p2, .int p3, .int p4, .int p5] D C tp sz (wX1 C a0 a1 a2 z0 o_from o_to o_spots o_memo) [cX0 z0 o_board_size o_board_cells o_board_all o_board_upper o_board_lower o_board_left o_board_right]) (QWi D o.1 (wX1 C a0 a1 a2 z0 o_from o_to o_spots o.2) (va_A (wX1 C a0 a1 a2 z0 o_from o_to o_spots o_memo) sz)) 0 0 (va_A (wX1 C a0 a1 a2 z0 o_from o_to o_spots o_memo) sz)) (k18 : Int32 → Int32 → Int32 → (Nat → Int64) → Option (Int32 × (Nat → Int64))) (hk18 : ∀ (v8 : Int32) (v9 : Int32) (v10 : Int32) (o_memo : Nat → Int64), k18 v8 v9 v10 o_memo = some o → ∀ (H : Heap) (locs : List Loc), va_P D vwCl (wX1 C a0 a1 a2 z0 o_from o_to o_spots o_memo) H → va_D A (wX1 C a0 a1 a2 z0 o_from o_to o_spots o_memo) → va_S A s.heap H locs → ∀ (ls : Array Slot), lv_has ls 14 [(0, .ref a0), (1, .long p1), (3, .long p2), (5, .int p3), (6, .int p4), (7, .int p5), (8, .int v8), (9, .int v9), (10, .int v10)] → W p l e (R_X1_bestOutcome d9) s m args below meth c H locs 0 0 (MQ below (QWi D o.1 (wX1 C a0 a1 a2 z0 o_from o_to o_spots o.2) A) args s 0 0 A) (F0 m 18 ls [])) : ∀ (v9 : Int32) (v10 : Int32) (t0 : Int32) (o_memo : Nat → Int64), m_X1_bestOutcome_c124  k18 v9 v10 t0 o_memo = some o → ∀ (H : Heap) (locs : List Loc), va_P D vwCl (wX1 C a0 a1 a2 z0 o_from o_to o_spots o_memo) H → va_D A (wX1 C a0 a1 a2 z0 o_from o_to o_spots o_memo) → va_S A s.heap H locs → ∀ (ls : Array Slot), lv_has ls 14 [(0, .ref a0), (1, .long p1), (3, .long p2), (5, .int p3), (6, .int p4), (7, .int p5), (9, .int v9), (10, .int v10)] → W p l e (R_X1_bestOutcome d9) s m args below meth c H locs 0 0 (MQ below (QWi D o.1 (wX1 C a0 a1 a2 z0 o_from o_to o_spots o.2) A) args s 0 0 A) (F0 m 124 ls [.int t0]) := by
  have hx := hc.1
  have hb := hc.2.1
  have hown := hc.2.2.2.2.1
  have hts := hc.2.2.2.2.2.1
  intro v9 v10 t0 o_memo hf H locs hP hD hS ls hl
  refine lv_istore (lv' := [(8, .int t0), (0, .ref a0), (1, .long p1), (3, .long p2), (5, .int p3), (6, .int p4), (7, .int p5), (9, .int v9), (10, .int v10)]) hx hb dX1_bestOutcome_124 hl (by decide) rfl (fun ls hl => ?_)
  exact w_X1_bestOutcome_c126 hc hK hA hO hN hT hoc k18 hk18 t0 v9 v10 o_memo hf _ _ hP hD hS ls (lv_sub hl [1, 2, 3, 4, 5, 6, 0, 7, 8] rfl)
def m_X1_bestOutcome_c83 (o_from : Int64) (o_to : Int64) (o_spots : Nat → Int64) (o_board_size : Int32) (o_board_cells : Int32) (o_board_all : Int64) (o_board_left : Int64) (o_board_right : Int64) (p3 : Int32) (p4 : Int32) (p5 : Int32) (oc : Int64 → Int64 → (Nat → Int64) → (Nat → Int64) → Int32 → Int32 → Int64 → Int64 → Int64 → Int64 → Int64 → Int32 → Int32 → Int32 → Option (Int32 × (Nat → Int64))) (k18 : Int32 → Int32 → Int32 → (Nat → Int64) → Option (Int32 × (Nat → Int64))) (v8 : Int32) (v9 : Int32) (v10 : Int32) (t0 : Int32) (t1 : Int64) (t2 : Int64) (t4 : Int32) (o_memo : Nat → Int64) : Option (Int32 × (Nat → Int64)) := (if okI v10 9 = true then ((oc o_from o_to o_spots o_memo o_board_size o_board_cells o_board_all o_board_left o_board_right t2 t1 t0 (p4 + (v9 * (pw9 v10.toNatClampNeg))) (p5 + (1 : Int32))).bind fun u9 => (if 0 ≤ v8 then (m_X1_bestOutcome_c124 k18 v9 v10 (m_X1_better v8 (t4 + u9.1) p3) u9.2) else (m_X1_bestOutcome_c124 k18 v9 v10 (t4 + u9.1) u9.2))) else none)
set_option maxHeartbeats 4000000 in
set_option maxRecDepth 100000 in
theorem w_X1_bestOutcome_c83 {p : Program} {l : Launch} {e : Env} {s : State} {m : MethodId} {args : Array Value} {below : List Frame} {meth : Method} {c : Code} {D : va_G} {C : Nat → ClassId} {A : Nat → Prop} {tp : Nat} {a0 : Nat} {a1 : Nat} {a2 : Nat} {z0 : Nat} {o_from : Int64} {o_to : Int64} {o_spots : Nat → Int64} {o_board_size : Int32} {o_board_cells : Int32} {o_board_all : Int64} {o_board_upper : Int64} {o_board_lower : Int64} {o_board_left : Int64} {o_board_right : Int64} {p1 : Int64} {p2 : Int64} {p3 : Int32} {p4 : Int32} {p5 : Int32} {d9 : Nat} {oc : Int64 → Int64 → (Nat → Int64) → (Nat → Int64) → Int32 → Int32 → Int64 → Int64 → Int64 → Int64 → Int64 → Int32 → Int32 → Int32 → Option (Int32 × (Nat → Int64))} {o : Int32 × (Nat → Int64)} (hc : Cx p s m args meth c yX1_bestOutcome cX1_bestOutcome 14 (some .int)) (hK : va_K D vwCl (TY C) s) (hA : ∀ q : Nat, s.heap.size ≤ q → A q) (hO : va_P D vwCl [cX0 z0 o_board_size o_board_cells o_board_all o_board_upper o_board_lower o_board_left o_board_right] s.heap) (hN : ∀ q ∈ [cX0 z0 o_board_size o_board_cells o_board_all o_board_upper o_board_lower o_board_left o_board_right], ¬ A q.1) (hT : Xt tp A s s.heap) (hoc : ∀ (sz : Nat) (a0 : Nat) (a1 : Nat) (a2 : Nat) (z0 : Nat) (o_from : Int64) (o_to : Int64) (o_spots : Nat → Int64) (o_memo : Nat → Int64) (o_board_size : Int32) (o_board_cells : Int32) (o_board_all : Int64) (o_board_upper : Int64) (o_board_lower : Int64) (o_board_left : Int64) (o_board_right : Int64) (p1 : Int64) (p2 : Int64) (p3 : Int32) (p4 : Int32) (p5 : Int32) (o : Int32 × (Nat → Int64)), oc o_from o_to o_spots o_memo o_board_size o_board_cells o_board_all o_board_left o_board_right p1 p2 p3 p4 p5 = some o → Met l yX1_outcome (wl yX1_outcome cX1_outcome 9 (some .int)) (R_X1_outcome d9) (PWX [.ref a0, .long p1, .long p2, .int p3, .int p4, .int p5] D C tp sz (wX1 C a0 a1 a2 z0 o_from o_to o_spots o_memo) [cX0 z0 o_board_size o_board_cells o_board_all o_board_upper o_board_lower o_board_left o_board_right]) (QWi D o.1 (wX1 C a0 a1 a2 z0 o_from o_to o_spots o.2) (va_A (wX1 C a0 a1 a2 z0 o_from o_to o_spots o_memo) sz)) 0 0 (va_A (wX1 C a0 a1 a2 z0 o_from o_to o_spots o_memo) sz)) (k18 : Int32 → Int32 → Int32 → (Nat → Int64) → Option (Int32 × (Nat → Int64))) (hk18 : ∀ (v8 : Int32) (v9 : Int32) (v10 : Int32) (o_memo : Nat → Int64), k18 v8 v9 v10 o_memo = some o → ∀ (H : Heap) (locs : List Loc), va_P D vwCl (wX1 C a0 a1 a2 z0 o_from o_to o_spots o_memo) H → va_D A (wX1 C a0 a1 a2 z0 o_from o_to o_spots o_memo) → va_S A s.heap H locs → ∀ (ls : Array Slot), lv_has ls 14 [(0, .ref a0), (1, .long p1), (3, .long p2), (5, .int p3), (6, .int p4), (7, .int p5), (8, .int v8), (9, .int v9), (10, .int v10)] → W p l e (R_X1_bestOutcome d9) s m args below meth c H locs 0 0 (MQ below (QWi D o.1 (wX1 C a0 a1 a2 z0 o_from o_to o_spots o.2) A) args s 0 0 A) (F0 m 18 ls [])) : ∀ (v8 : Int32) (v9 : Int32) (v10 : Int32) (t0 : Int32) (t1 : Int64) (t2 : Int64) (t4 : Int32) (o_memo : Nat → Int64), m_X1_bestOutcome_c83 o_from o_to o_spots o_board_size o_board_cells o_board_all o_board_left o_board_right p3 p4 p5 oc k18 v8 v9 v10 t0 t1 t2 t4 o_memo = some o → ∀ (H : Heap) (locs : List Loc), va_P D vwCl (wX1 C a0 a1 a2 z0 o_from o_to o_spots o_memo) H → va_D A (wX1 C a0 a1 a2 z0 o_from o_to o_spots o_memo) → va_S A s.heap H locs → ∀ (ls : Array Slot), lv_has ls 14 [(0, .ref a0), (1, .long p1), (3, .long p2), (5, .int p3), (6, .int p4), (7, .int p5), (8, .int v8), (9, .int v9), (10, .int v10)] → W p l e (R_X1_bestOutcome d9) s m args below meth c H locs 0 0 (MQ below (QWi D o.1 (wX1 C a0 a1 a2 z0 o_from o_to o_spots o.2) A) args s 0 0 A) (F0 m 83 ls [.int t0, .long t1, .long t2, .ref a0, .int t4]) := by
  have hx := hc.1
  have hb := hc.2.1
  have hown := hc.2.2.2.2.1
  have hts := hc.2.2.2.2.2.1
  intro v8 v9 v10 t0 t1 t2 t4 o_memo hf H locs hP hD hS ls hl
  refine lv_iload hx hb dX1_bestOutcome_83 (lv_at hl 4 rfl) ?_
  refine lv_iload hx hb dX1_bestOutcome_85 (lv_at hl 7 rfl) ?_
  refine va_gets hx hb hT.1 hS hown (hts _ q_473) (fun _ h9 => h9) dX1_bestOutcome_87 ?_
  refine lv_iload hx hb dX1_bestOutcome_90 (lv_at hl 8 rfl) ?_
  obtain ⟨h8, hf⟩ := ok_t hf
  refine va_ti hx hb hT.2.1 hS (okI_in h8) (v := .int (pw9 v10.toNatClampNeg)) rfl dX1_bestOutcome_92 ?_
  refine lv_imul hx hb dX1_bestOutcome_93 ?_
  refine lv_iadd hx hb dX1_bestOutcome_94 ?_
  refine lv_iload hx hb dX1_bestOutcome_95 (lv_at hl 5 rfl) ?_
  refine lv_iconst (v := (1 : Int32)) hx hb dX1_bestOutcome_97 (by decide) ?_
  refine lv_iadd hx hb dX1_bestOutcome_98 ?_
  obtain ⟨u9, hu9, hf⟩ := bind_some hf
  refine wcViX (A := A) (wc := wX1 C a0 a1 a2 z0 o_from o_to o_spots o_memo) (w1 := wX1 C a0 a1 a2 z0 o_from o_to o_spots u9.2) (rc := [cX0 z0 o_board_size o_board_cells o_board_all o_board_upper o_board_lower o_board_left o_board_right]) (As := [.long t2, .long t1, .int t0, .int (p4 + (v9 * (pw9 v10.toNatClampNeg))), .int (p5 + (1 : Int32))]) (rest := [.int t4]) hc k_X1_29 (hoc _ a0 a1 a2 z0 o_from o_to o_spots o_memo o_board_size o_board_cells o_board_all o_board_upper o_board_lower o_board_left o_board_right t2 t1 t0 (p4 + (v9 * (pw9 v10.toNatClampNeg))) (p5 + (1 : Int32))  _ hu9) ⟨rfl, rfl, (by show 2 * d9 + 10 + 1 ≤ 2 * d9 + 11; omega), (by show 8 + (9 + 11) + (100 * d9 + 500) ≤ 100 * d9 + 550; omega)⟩ hP hD hS hA hK [0, 1, 2] [] rfl rfl rfl rfl (by decide) ((hP.app (ro_S hO hN hS)).sub [3] rfl) (Ap_cons (fun h9 => hN _ (List.mem_of_getElem? (i := 0) rfl) (va_free (wc := wX1 C a0 a1 a2 z0 o_from o_to o_spots o_memo) hD hS hA [0, 1, 2] rfl _ h9)) Ap_nil) hT (q0 := 0) rfl rfl rfl hl rfl rfl (Nat.le_of_ble_eq_true rfl) ⟨Nat.zero_le _, Nat.zero_le _⟩ dX1_bestOutcome_99 (fun H locs hP hD hS => ?_)
  have hP : va_P D vwCl (wX1 C a0 a1 a2 z0 o_from o_to o_spots u9.2) H := hP.sub [0, 1, 2] rfl
  have hD : va_D A (wX1 C a0 a1 a2 z0 o_from o_to o_spots u9.2) := hD.sub [0, 1, 2] rfl rfl
  refine lv_iadd hx hb dX1_bestOutcome_102 ?_
  refine lv_istore (lv' := [(13, .int (t4 + u9.1)), (0, .ref a0), (1, .long p1), (3, .long p2), (5, .int p3), (6, .int p4), (7, .int p5), (8, .int v8), (9, .int v9), (10, .int v10)]) hx hb dX1_bestOutcome_103 hl (by decide) rfl (fun ls hl => ?_)
  refine lv_iload hx hb dX1_bestOutcome_105 (lv_at hl 7 rfl) ?_
  refine lv_if_ge (tgt := 115) hx hb dX1_bestOutcome_107 (by decide) (fun c10 => ?_) (fun c10 => ?_)
  · have hf := if_t hf c10
    refine lv_iload hx hb dX1_bestOutcome_115 (lv_at hl 7 rfl) ?_
    refine lv_iload hx hb dX1_bestOutcome_117 (lv_at hl 0 rfl) ?_
    refine lv_iload hx hb dX1_bestOutcome_119 (lv_at hl 4 rfl) ?_
    refine rcSi (As := [.int v8, .int (t4 + u9.1), .int p3]) (rest := []) hc k_X1_56 (c_X1_better l D C v8 (t4 + u9.1) p3  _ rfl) ⟨rfl, rfl, (by show 1 + 1 ≤ 2 * d9 + 11; omega), (by show 8 + (3 + 11) + (21) ≤ 100 * d9 + 550; omega)⟩ (hP.sub [] rfl) hK hl rfl rfl (Nat.le_of_ble_eq_true rfl) ⟨Nat.zero_le _, Nat.zero_le _⟩ dX1_bestOutcome_121 ?_
    exact w_X1_bestOutcome_c124 hc hK hA hO hN hT hoc k18 hk18 v9 v10 (m_X1_better v8 (t4 + u9.1) p3) u9.2 hf _ _ hP hD hS ls (lv_sub hl [1, 2, 3, 4, 5, 6, 8, 9] rfl)
  · have hf := if_f hf c10
    refine lv_iload hx hb dX1_bestOutcome_110 (lv_at hl 0 rfl) ?_
    refine lv_goto (tgt := 124) hx hb dX1_bestOutcome_112 (by decide) ?_
    exact w_X1_bestOutcome_c124 hc hK hA hO hN hT hoc k18 hk18 v9 v10 (t4 + u9.1) u9.2 hf _ _ hP hD hS ls (lv_sub hl [1, 2, 3, 4, 5, 6, 8, 9] rfl)
def m_X1_bestOutcome_c65 (o_from : Int64) (o_to : Int64) (o_spots : Nat → Int64) (o_board_size : Int32) (o_board_cells : Int32) (o_board_all : Int64) (o_board_left : Int64) (o_board_right : Int64) (p2 : Int64) (p3 : Int32) (p4 : Int32) (p5 : Int32) (oc : Int64 → Int64 → (Nat → Int64) → (Nat → Int64) → Int32 → Int32 → Int64 → Int64 → Int64 → Int64 → Int64 → Int32 → Int32 → Int32 → Option (Int32 × (Nat → Int64))) (k18 : Int32 → Int32 → Int32 → (Nat → Int64) → Option (Int32 × (Nat → Int64))) (v8 : Int32) (v9 : Int32) (v10 : Int32) (v11 : Int64) (t0 : Int64) (t2 : Int32) (o_memo : Nat → Int64) : Option (Int32 × (Nat → Int64)) := (if p3 = 0 then (m_X1_bestOutcome_c83 o_from o_to o_spots o_board_size o_board_cells o_board_all o_board_left o_board_right p3 p4 p5 oc k18 v8 v9 v10 (1 : Int32) (p2 &&& (v11 ^^^ (-1 : Int64))) t0 t2 o_memo) else (m_X1_bestOutcome_c83 o_from o_to o_spots o_board_size o_board_cells o_board_all o_board_left o_board_right p3 p4 p5 oc k18 v8 v9 v10 (0 : Int32) (p2 &&& (v11 ^^^ (-1 : Int64))) t0 t2 o_memo))
set_option maxHeartbeats 4000000 in
set_option maxRecDepth 100000 in
theorem w_X1_bestOutcome_c65 {p : Program} {l : Launch} {e : Env} {s : State} {m : MethodId} {args : Array Value} {below : List Frame} {meth : Method} {c : Code} {D : va_G} {C : Nat → ClassId} {A : Nat → Prop} {tp : Nat} {a0 : Nat} {a1 : Nat} {a2 : Nat} {z0 : Nat} {o_from : Int64} {o_to : Int64} {o_spots : Nat → Int64} {o_board_size : Int32} {o_board_cells : Int32} {o_board_all : Int64} {o_board_upper : Int64} {o_board_lower : Int64} {o_board_left : Int64} {o_board_right : Int64} {p1 : Int64} {p2 : Int64} {p3 : Int32} {p4 : Int32} {p5 : Int32} {d9 : Nat} {oc : Int64 → Int64 → (Nat → Int64) → (Nat → Int64) → Int32 → Int32 → Int64 → Int64 → Int64 → Int64 → Int64 → Int32 → Int32 → Int32 → Option (Int32 × (Nat → Int64))} {o : Int32 × (Nat → Int64)} (hc : Cx p s m args meth c yX1_bestOutcome cX1_bestOutcome 14 (some .int)) (hK : va_K D vwCl (TY C) s) (hA : ∀ q : Nat, s.heap.size ≤ q → A q) (hO : va_P D vwCl [cX0 z0 o_board_size o_board_cells o_board_all o_board_upper o_board_lower o_board_left o_board_right] s.heap) (hN : ∀ q ∈ [cX0 z0 o_board_size o_board_cells o_board_all o_board_upper o_board_lower o_board_left o_board_right], ¬ A q.1) (hT : Xt tp A s s.heap) (hoc : ∀ (sz : Nat) (a0 : Nat) (a1 : Nat) (a2 : Nat) (z0 : Nat) (o_from : Int64) (o_to : Int64) (o_spots : Nat → Int64) (o_memo : Nat → Int64) (o_board_size : Int32) (o_board_cells : Int32) (o_board_all : Int64) (o_board_upper : Int64) (o_board_lower : Int64) (o_board_left : Int64) (o_board_right : Int64) (p1 : Int64) (p2 : Int64) (p3 : Int32) (p4 : Int32) (p5 : Int32) (o : Int32 × (Nat → Int64)), oc o_from o_to o_spots o_memo o_board_size o_board_cells o_board_all o_board_left o_board_right p1 p2 p3 p4 p5 = some o → Met l yX1_outcome (wl yX1_outcome cX1_outcome 9 (some .int)) (R_X1_outcome d9) (PWX [.ref a0, .long p1, .long p2, .int p3, .int p4, .int p5] D C tp sz (wX1 C a0 a1 a2 z0 o_from o_to o_spots o_memo) [cX0 z0 o_board_size o_board_cells o_board_all o_board_upper o_board_lower o_board_left o_board_right]) (QWi D o.1 (wX1 C a0 a1 a2 z0 o_from o_to o_spots o.2) (va_A (wX1 C a0 a1 a2 z0 o_from o_to o_spots o_memo) sz)) 0 0 (va_A (wX1 C a0 a1 a2 z0 o_from o_to o_spots o_memo) sz)) (k18 : Int32 → Int32 → Int32 → (Nat → Int64) → Option (Int32 × (Nat → Int64))) (hk18 : ∀ (v8 : Int32) (v9 : Int32) (v10 : Int32) (o_memo : Nat → Int64), k18 v8 v9 v10 o_memo = some o → ∀ (H : Heap) (locs : List Loc), va_P D vwCl (wX1 C a0 a1 a2 z0 o_from o_to o_spots o_memo) H → va_D A (wX1 C a0 a1 a2 z0 o_from o_to o_spots o_memo) → va_S A s.heap H locs → ∀ (ls : Array Slot), lv_has ls 14 [(0, .ref a0), (1, .long p1), (3, .long p2), (5, .int p3), (6, .int p4), (7, .int p5), (8, .int v8), (9, .int v9), (10, .int v10)] → W p l e (R_X1_bestOutcome d9) s m args below meth c H locs 0 0 (MQ below (QWi D o.1 (wX1 C a0 a1 a2 z0 o_from o_to o_spots o.2) A) args s 0 0 A) (F0 m 18 ls [])) : ∀ (v8 : Int32) (v9 : Int32) (v10 : Int32) (v11 : Int64) (t0 : Int64) (t2 : Int32) (o_memo : Nat → Int64), m_X1_bestOutcome_c65 o_from o_to o_spots o_board_size o_board_cells o_board_all o_board_left o_board_right p2 p3 p4 p5 oc k18 v8 v9 v10 v11 t0 t2 o_memo = some o → ∀ (H : Heap) (locs : List Loc), va_P D vwCl (wX1 C a0 a1 a2 z0 o_from o_to o_spots o_memo) H → va_D A (wX1 C a0 a1 a2 z0 o_from o_to o_spots o_memo) → va_S A s.heap H locs → ∀ (ls : Array Slot), lv_has ls 14 [(0, .ref a0), (1, .long p1), (3, .long p2), (5, .int p3), (6, .int p4), (7, .int p5), (8, .int v8), (9, .int v9), (10, .int v10), (11, .long v11)] → W p l e (R_X1_bestOutcome d9) s m args below meth c H locs 0 0 (MQ below (QWi D o.1 (wX1 C a0 a1 a2 z0 o_from o_to o_spots o.2) A) args s 0 0 A) (F0 m 65 ls [.long t0, .ref a0, .int t2]) := by
  have hx := hc.1
  have hb := hc.2.1
  have hown := hc.2.2.2.2.1
  have hts := hc.2.2.2.2.2.1
  intro v8 v9 v10 v11 t0 t2 o_memo hf H locs hP hD hS ls hl
  refine lv_lload_n hx hb dX1_bestOutcome_65 rfl (lv_at hl 2 rfl) ?_
  refine lv_lload hx hb dX1_bestOutcome_66 (lv_at hl 9 rfl) ?_
  refine lv_ldc2 (v := (-1 : Int64)) hx hb hown (hts _ q_472) dX1_bestOutcome_68 ?_
  refine lv_lxor hx hb dX1_bestOutcome_71 ?_
  refine lv_land hx hb dX1_bestOutcome_72 ?_
  refine lv_iload hx hb dX1_bestOutcome_73 (lv_at hl 3 rfl) ?_
  refine lv_if_ne (tgt := 82) hx hb dX1_bestOutcome_75 (by decide) (fun c7 => ?_) (fun c7 => ?_)
  · have hf := if_f hf c7
    refine lv_iconst (v := (0 : Int32)) hx hb dX1_bestOutcome_82 (by decide) ?_
    exact w_X1_bestOutcome_c83 hc hK hA hO hN hT hoc k18 hk18 v8 v9 v10 (0 : Int32) (p2 &&& (v11 ^^^ (-1 : Int64))) t0 t2 o_memo hf _ _ hP hD hS ls (lv_sub hl [0, 1, 2, 3, 4, 5, 6, 7, 8] rfl)
  · have hf := if_t hf c7
    refine lv_iconst (v := (1 : Int32)) hx hb dX1_bestOutcome_78 (by decide) ?_
    refine lv_goto (tgt := 83) hx hb dX1_bestOutcome_79 (by decide) ?_
    exact w_X1_bestOutcome_c83 hc hK hA hO hN hT hoc k18 hk18 v8 v9 v10 (1 : Int32) (p2 &&& (v11 ^^^ (-1 : Int64))) t0 t2 o_memo hf _ _ hP hD hS ls (lv_sub hl [0, 1, 2, 3, 4, 5, 6, 7, 8] rfl)
def m_X1_bestOutcome_c18 (o_from : Int64) (o_to : Int64) (o_spots : Nat → Int64) (o_board_size : Int32) (o_board_cells : Int32) (o_board_all : Int64) (o_board_left : Int64) (o_board_right : Int64) (p1 : Int64) (p2 : Int64) (p3 : Int32) (p4 : Int32) (p5 : Int32) (oc : Int64 → Int64 → (Nat → Int64) → (Nat → Int64) → Int32 → Int32 → Int64 → Int64 → Int64 → Int64 → Int64 → Int32 → Int32 → Int32 → Option (Int32 × (Nat → Int64)))  : Nat → Int32 → Int32 → Int32 → (Nat → Int64) → Option (Int32 × (Nat → Int64))
  | 0, _, _, _, _ => none
  | n + 1, v8, v9, v10, o_memo => (if (9 : Int32) ≤ v10 then some (v8, o_memo) else (if (9 : Int32) ≤ p5 then some (v8, o_memo) else (if okI v10 9 = true then (if (p2 &&& (o_spots v10.toNatClampNeg)) = (0 : Int64) then (m_X1_bestOutcome_c126 (m_X1_bestOutcome_c18 o_from o_to o_spots o_board_size o_board_cells o_board_all o_board_left o_board_right p1 p2 p3 p4 p5 oc  n) v8 v9 v10 o_memo) else (if p3 = 0 then (m_X1_bestOutcome_c65 o_from o_to o_spots o_board_size o_board_cells o_board_all o_board_left o_board_right p2 p3 p4 p5 oc (m_X1_bestOutcome_c18 o_from o_to o_spots o_board_size o_board_cells o_board_all o_board_left o_board_right p1 p2 p3 p4 p5 oc  n) v8 v9 v10 (o_spots v10.toNatClampNeg) p1 (2 : Int32) o_memo) else (m_X1_bestOutcome_c65 o_from o_to o_spots o_board_size o_board_cells o_board_all o_board_left o_board_right p2 p3 p4 p5 oc (m_X1_bestOutcome_c18 o_from o_to o_spots o_board_size o_board_cells o_board_all o_board_left o_board_right p1 p2 p3 p4 p5 oc  n) v8 v9 v10 (o_spots v10.toNatClampNeg) (p1 ||| (o_spots v10.toNatClampNeg)) (2 : Int32) o_memo))) else none)))
set_option maxHeartbeats 4000000 in
set_option maxRecDepth 100000 in
theorem w_X1_bestOutcome_c18 {p : Program} {l : Launch} {e : Env} {s : State} {m : MethodId} {args : Array Value} {below : List Frame} {meth : Method} {c : Code} {D : va_G} {C : Nat → ClassId} {A : Nat → Prop} {tp : Nat} {a0 : Nat} {a1 : Nat} {a2 : Nat} {z0 : Nat} {o_from : Int64} {o_to : Int64} {o_spots : Nat → Int64} {o_board_size : Int32} {o_board_cells : Int32} {o_board_all : Int64} {o_board_upper : Int64} {o_board_lower : Int64} {o_board_left : Int64} {o_board_right : Int64} {p1 : Int64} {p2 : Int64} {p3 : Int32} {p4 : Int32} {p5 : Int32} {d9 : Nat} {oc : Int64 → Int64 → (Nat → Int64) → (Nat → Int64) → Int32 → Int32 → Int64 → Int64 → Int64 → Int64 → Int64 → Int32 → Int32 → Int32 → Option (Int32 × (Nat → Int64))} {o : Int32 × (Nat → Int64)} (hc : Cx p s m args meth c yX1_bestOutcome cX1_bestOutcome 14 (some .int)) (hK : va_K D vwCl (TY C) s) (hA : ∀ q : Nat, s.heap.size ≤ q → A q) (hO : va_P D vwCl [cX0 z0 o_board_size o_board_cells o_board_all o_board_upper o_board_lower o_board_left o_board_right] s.heap) (hN : ∀ q ∈ [cX0 z0 o_board_size o_board_cells o_board_all o_board_upper o_board_lower o_board_left o_board_right], ¬ A q.1) (hT : Xt tp A s s.heap) (hoc : ∀ (sz : Nat) (a0 : Nat) (a1 : Nat) (a2 : Nat) (z0 : Nat) (o_from : Int64) (o_to : Int64) (o_spots : Nat → Int64) (o_memo : Nat → Int64) (o_board_size : Int32) (o_board_cells : Int32) (o_board_all : Int64) (o_board_upper : Int64) (o_board_lower : Int64) (o_board_left : Int64) (o_board_right : Int64) (p1 : Int64) (p2 : Int64) (p3 : Int32) (p4 : Int32) (p5 : Int32) (o : Int32 × (Nat → Int64)), oc o_from o_to o_spots o_memo o_board_size o_board_cells o_board_all o_board_left o_board_right p1 p2 p3 p4 p5 = some o → Met l yX1_outcome (wl yX1_outcome cX1_outcome 9 (some .int)) (R_X1_outcome d9) (PWX [.ref a0, .long p1, .long p2, .int p3, .int p4, .int p5] D C tp sz (wX1 C a0 a1 a2 z0 o_from o_to o_spots o_memo) [cX0 z0 o_board_size o_board_cells o_board_all o_board_upper o_board_lower o_board_left o_board_right]) (QWi D o.1 (wX1 C a0 a1 a2 z0 o_from o_to o_spots o.2) (va_A (wX1 C a0 a1 a2 z0 o_from o_to o_spots o_memo) sz)) 0 0 (va_A (wX1 C a0 a1 a2 z0 o_from o_to o_spots o_memo) sz)) : ∀ (n : Nat), ∀ (v8 : Int32) (v9 : Int32) (v10 : Int32) (o_memo : Nat → Int64), m_X1_bestOutcome_c18 o_from o_to o_spots o_board_size o_board_cells o_board_all o_board_left o_board_right p1 p2 p3 p4 p5 oc  n v8 v9 v10 o_memo = some o → ∀ (H : Heap) (locs : List Loc), va_P D vwCl (wX1 C a0 a1 a2 z0 o_from o_to o_spots o_memo) H → va_D A (wX1 C a0 a1 a2 z0 o_from o_to o_spots o_memo) → va_S A s.heap H locs → ∀ (ls : Array Slot), lv_has ls 14 [(0, .ref a0), (1, .long p1), (3, .long p2), (5, .int p3), (6, .int p4), (7, .int p5), (8, .int v8), (9, .int v9), (10, .int v10)] → W p l e (R_X1_bestOutcome d9) s m args below meth c H locs 0 0 (MQ below (QWi D o.1 (wX1 C a0 a1 a2 z0 o_from o_to o_spots o.2) A) args s 0 0 A) (F0 m 18 ls []) := by
  have hx := hc.1
  have hb := hc.2.1
  have hown := hc.2.2.2.2.1
  have hts := hc.2.2.2.2.2.1
  intro n
  induction n with
  | zero =>
    intro v8 v9 v10 o_memo hf
    exact no_some hf
  | succ n ih =>
    intro v8 v9 v10 o_memo hf H locs hP hD hS ls hl
    refine lv_iload hx hb dX1_bestOutcome_18 (lv_at hl 8 rfl) ?_
    refine lv_bipush (v := (9 : Int32)) hx hb dX1_bestOutcome_20 (by decide) ?_
    refine lv_icmp_ge (tgt := 132) hx hb dX1_bestOutcome_22 (by decide) (fun c2 => ?_) (fun c2 => ?_)
    · have hf := if_t hf c2
      refine lv_iload hx hb dX1_bestOutcome_132 (lv_at hl 6 rfl) ?_
      have hf := Option.some.inj hf
      subst hf
      exact rWi hc rfl hP hD hS dX1_bestOutcome_134
    · have hf := if_f hf c2
      refine lv_iload hx hb dX1_bestOutcome_25 (lv_at hl 5 rfl) ?_
      refine lv_bipush (v := (9 : Int32)) hx hb dX1_bestOutcome_27 (by decide) ?_
      refine lv_icmp_ge (tgt := 132) hx hb dX1_bestOutcome_29 (by decide) (fun c3 => ?_) (fun c3 => ?_)
      · have hf := if_t hf c3
        refine lv_iload hx hb dX1_bestOutcome_132 (lv_at hl 6 rfl) ?_
        have hf := Option.some.inj hf
        subst hf
        exact rWi hc rfl hP hD hS dX1_bestOutcome_134
      · have hf := if_f hf c3
        refine lv_aload_n hx hb dX1_bestOutcome_32 rfl (lv_at hl 0 rfl) ?_
        refine va_get (D := D) (ci := 1) (v := .ref a1) (C := RX1) (T := TX1) (N := 5) hx hb hts inX1 hown hK hP 0 rfl rfl 3 (by decide) (hts _ q_124) (fun _ h9 => h9) rfl dX1_bestOutcome_33 ?_
        refine lv_iload hx hb dX1_bestOutcome_36 (lv_at hl 8 rfl) ?_
        obtain ⟨h4, hf⟩ := ok_t hf
        refine va_lald hx hb hK hP 1 1 rfl rfl (okI_in h4) dX1_bestOutcome_38 ?_
        refine lv_lstore (lv' := [(11, .long (o_spots v10.toNatClampNeg)), (0, .ref a0), (1, .long p1), (3, .long p2), (5, .int p3), (6, .int p4), (7, .int p5), (8, .int v8), (9, .int v9), (10, .int v10)]) hx hb dX1_bestOutcome_39 hl (by decide) rfl (fun ls hl => ?_)
        refine lv_lload_n hx hb dX1_bestOutcome_41 rfl (lv_at hl 3 rfl) ?_
        refine lv_lload hx hb dX1_bestOutcome_42 (lv_at hl 0 rfl) ?_
        refine lv_land hx hb dX1_bestOutcome_44 ?_
        refine lv_lconst (v := (0 : Int64)) hx hb dX1_bestOutcome_45 (by decide) ?_
        refine lc_eq (tgt := 126) hx hb dX1_bestOutcome_46 dX1_bestOutcome_47 (by decide) (fun c5 => ?_) (fun c5 => ?_)
        · have hf := if_t hf c5
          exact w_X1_bestOutcome_c126 hc hK hA hO hN hT hoc (m_X1_bestOutcome_c18 o_from o_to o_spots o_board_size o_board_cells o_board_all o_board_left o_board_right p1 p2 p3 p4 p5 oc  n) ih v8 v9 v10 o_memo hf _ _ hP hD hS ls (lv_sub hl [1, 2, 3, 4, 5, 6, 7, 8, 9] rfl)
        · have hf := if_f hf c5
          refine lv_iconst (v := (2 : Int32)) hx hb dX1_bestOutcome_50 (by decide) ?_
          refine lv_aload_n hx hb dX1_bestOutcome_51 rfl (lv_at hl 1 rfl) ?_
          refine lv_iload hx hb dX1_bestOutcome_52 (lv_at hl 4 rfl) ?_
          refine lv_if_eq (tgt := 64) hx hb dX1_bestOutcome_54 (by decide) (fun c6 => ?_) (fun c6 => ?_)
          · have hf := if_t hf c6
            refine lv_lload_n hx hb dX1_bestOutcome_64 rfl (lv_at hl 2 rfl) ?_
            exact w_X1_bestOutcome_c65 hc hK hA hO hN hT hoc (m_X1_bestOutcome_c18 o_from o_to o_spots o_board_size o_board_cells o_board_all o_board_left o_board_right p1 p2 p3 p4 p5 oc  n) ih v8 v9 v10 (o_spots v10.toNatClampNeg) p1 (2 : Int32) o_memo hf _ _ hP hD hS ls (lv_sub hl [1, 2, 3, 4, 5, 6, 7, 8, 9, 0] rfl)
          · have hf := if_f hf c6
            refine lv_lload_n hx hb dX1_bestOutcome_57 rfl (lv_at hl 2 rfl) ?_
            refine lv_lload hx hb dX1_bestOutcome_58 (lv_at hl 0 rfl) ?_
            refine lv_lor hx hb dX1_bestOutcome_60 ?_
            refine lv_goto (tgt := 65) hx hb dX1_bestOutcome_61 (by decide) ?_
            exact w_X1_bestOutcome_c65 hc hK hA hO hN hT hoc (m_X1_bestOutcome_c18 o_from o_to o_spots o_board_size o_board_cells o_board_all o_board_left o_board_right p1 p2 p3 p4 p5 oc  n) ih v8 v9 v10 (o_spots v10.toNatClampNeg) (p1 ||| (o_spots v10.toNatClampNeg)) (2 : Int32) o_memo hf _ _ hP hD hS ls (lv_sub hl [1, 2, 3, 4, 5, 6, 7, 8, 9, 0] rfl)
def m_X1_bestOutcome_c13 (o_from : Int64) (o_to : Int64) (o_spots : Nat → Int64) (o_board_size : Int32) (o_board_cells : Int32) (o_board_all : Int64) (o_board_left : Int64) (o_board_right : Int64) (p1 : Int64) (p2 : Int64) (p3 : Int32) (p4 : Int32) (p5 : Int32) (oc : Int64 → Int64 → (Nat → Int64) → (Nat → Int64) → Int32 → Int32 → Int64 → Int64 → Int64 → Int64 → Int64 → Int32 → Int32 → Int32 → Option (Int32 × (Nat → Int64)))  (v8 : Int32) (t0 : Int32) (o_memo : Nat → Int64) : Option (Int32 × (Nat → Int64)) := (m_X1_bestOutcome_c18 o_from o_to o_spots o_board_size o_board_cells o_board_all o_board_left o_board_right p1 p2 p3 p4 p5 oc FU v8 t0 (0 : Int32) o_memo)
set_option maxHeartbeats 4000000 in
set_option maxRecDepth 100000 in
theorem w_X1_bestOutcome_c13 {p : Program} {l : Launch} {e : Env} {s : State} {m : MethodId} {args : Array Value} {below : List Frame} {meth : Method} {c : Code} {D : va_G} {C : Nat → ClassId} {A : Nat → Prop} {tp : Nat} {a0 : Nat} {a1 : Nat} {a2 : Nat} {z0 : Nat} {o_from : Int64} {o_to : Int64} {o_spots : Nat → Int64} {o_board_size : Int32} {o_board_cells : Int32} {o_board_all : Int64} {o_board_upper : Int64} {o_board_lower : Int64} {o_board_left : Int64} {o_board_right : Int64} {p1 : Int64} {p2 : Int64} {p3 : Int32} {p4 : Int32} {p5 : Int32} {d9 : Nat} {oc : Int64 → Int64 → (Nat → Int64) → (Nat → Int64) → Int32 → Int32 → Int64 → Int64 → Int64 → Int64 → Int64 → Int32 → Int32 → Int32 → Option (Int32 × (Nat → Int64))} {o : Int32 × (Nat → Int64)} (hc : Cx p s m args meth c yX1_bestOutcome cX1_bestOutcome 14 (some .int)) (hK : va_K D vwCl (TY C) s) (hA : ∀ q : Nat, s.heap.size ≤ q → A q) (hO : va_P D vwCl [cX0 z0 o_board_size o_board_cells o_board_all o_board_upper o_board_lower o_board_left o_board_right] s.heap) (hN : ∀ q ∈ [cX0 z0 o_board_size o_board_cells o_board_all o_board_upper o_board_lower o_board_left o_board_right], ¬ A q.1) (hT : Xt tp A s s.heap) (hoc : ∀ (sz : Nat) (a0 : Nat) (a1 : Nat) (a2 : Nat) (z0 : Nat) (o_from : Int64) (o_to : Int64) (o_spots : Nat → Int64) (o_memo : Nat → Int64) (o_board_size : Int32) (o_board_cells : Int32) (o_board_all : Int64) (o_board_upper : Int64) (o_board_lower : Int64) (o_board_left : Int64) (o_board_right : Int64) (p1 : Int64) (p2 : Int64) (p3 : Int32) (p4 : Int32) (p5 : Int32) (o : Int32 × (Nat → Int64)), oc o_from o_to o_spots o_memo o_board_size o_board_cells o_board_all o_board_left o_board_right p1 p2 p3 p4 p5 = some o → Met l yX1_outcome (wl yX1_outcome cX1_outcome 9 (some .int)) (R_X1_outcome d9) (PWX [.ref a0, .long p1, .long p2, .int p3, .int p4, .int p5] D C tp sz (wX1 C a0 a1 a2 z0 o_from o_to o_spots o_memo) [cX0 z0 o_board_size o_board_cells o_board_all o_board_upper o_board_lower o_board_left o_board_right]) (QWi D o.1 (wX1 C a0 a1 a2 z0 o_from o_to o_spots o.2) (va_A (wX1 C a0 a1 a2 z0 o_from o_to o_spots o_memo) sz)) 0 0 (va_A (wX1 C a0 a1 a2 z0 o_from o_to o_spots o_memo) sz)) : ∀ (v8 : Int32) (t0 : Int32) (o_memo : Nat → Int64), m_X1_bestOutcome_c13 o_from o_to o_spots o_board_size o_board_cells o_board_all o_board_left o_board_right p1 p2 p3 p4 p5 oc  v8 t0 o_memo = some o → ∀ (H : Heap) (locs : List Loc), va_P D vwCl (wX1 C a0 a1 a2 z0 o_from o_to o_spots o_memo) H → va_D A (wX1 C a0 a1 a2 z0 o_from o_to o_spots o_memo) → va_S A s.heap H locs → ∀ (ls : Array Slot), lv_has ls 14 [(0, .ref a0), (1, .long p1), (3, .long p2), (5, .int p3), (6, .int p4), (7, .int p5), (8, .int v8)] → W p l e (R_X1_bestOutcome d9) s m args below meth c H locs 0 0 (MQ below (QWi D o.1 (wX1 C a0 a1 a2 z0 o_from o_to o_spots o.2) A) args s 0 0 A) (F0 m 13 ls [.int t0]) := by
  have hx := hc.1
  have hb := hc.2.1
  have hown := hc.2.2.2.2.1
  have hts := hc.2.2.2.2.2.1
  intro v8 t0 o_memo hf H locs hP hD hS ls hl
  refine lv_istore (lv' := [(9, .int t0), (0, .ref a0), (1, .long p1), (3, .long p2), (5, .int p3), (6, .int p4), (7, .int p5), (8, .int v8)]) hx hb dX1_bestOutcome_13 hl (by decide) rfl (fun ls hl => ?_)
  refine lv_iconst (v := (0 : Int32)) hx hb dX1_bestOutcome_15 (by decide) ?_
  refine lv_istore (lv' := [(10, .int (0 : Int32)), (9, .int t0), (0, .ref a0), (1, .long p1), (3, .long p2), (5, .int p3), (6, .int p4), (7, .int p5), (8, .int v8)]) hx hb dX1_bestOutcome_16 hl (by decide) rfl (fun ls hl => ?_)
  exact w_X1_bestOutcome_c18 hc hK hA hO hN hT hoc  FU v8 t0 (0 : Int32) o_memo hf _ _ hP hD hS ls (lv_sub hl [2, 3, 4, 5, 6, 7, 8, 1, 0] rfl)
def m_X1_bestOutcome (o_from : Int64) (o_to : Int64) (o_spots : Nat → Int64) (o_memo : Nat → Int64) (o_board_size : Int32) (o_board_cells : Int32) (o_board_all : Int64) (o_board_left : Int64) (o_board_right : Int64) (p1 : Int64) (p2 : Int64) (p3 : Int32) (p4 : Int32) (p5 : Int32) (oc : Int64 → Int64 → (Nat → Int64) → (Nat → Int64) → Int32 → Int32 → Int64 → Int64 → Int64 → Int64 → Int64 → Int32 → Int32 → Int32 → Option (Int32 × (Nat → Int64))) : Option (Int32 × (Nat → Int64)) := (if p3 = 0 then (m_X1_bestOutcome_c13 o_from o_to o_spots o_board_size o_board_cells o_board_all o_board_left o_board_right p1 p2 p3 p4 p5 oc (-1 : Int32) (2 : Int32) o_memo) else (m_X1_bestOutcome_c13 o_from o_to o_spots o_board_size o_board_cells o_board_all o_board_left o_board_right p1 p2 p3 p4 p5 oc (-1 : Int32) (1 : Int32) o_memo))
set_option maxHeartbeats 4000000 in
set_option maxRecDepth 100000 in
theorem c_X1_bestOutcome (l : Launch) (D : va_G) (C : Nat → ClassId) (tp : Nat) (sz : Nat) (a0 : Nat) (a1 : Nat) (a2 : Nat) (z0 : Nat) (o_from : Int64) (o_to : Int64) (o_spots : Nat → Int64) (o_memo : Nat → Int64) (o_board_size : Int32) (o_board_cells : Int32) (o_board_all : Int64) (o_board_upper : Int64) (o_board_lower : Int64) (o_board_left : Int64) (o_board_right : Int64) (p1 : Int64) (p2 : Int64) (p3 : Int32) (p4 : Int32) (p5 : Int32) (d9 : Nat) (oc : Int64 → Int64 → (Nat → Int64) → (Nat → Int64) → Int32 → Int32 → Int64 → Int64 → Int64 → Int64 → Int64 → Int32 → Int32 → Int32 → Option (Int32 × (Nat → Int64))) (hoc : ∀ (sz : Nat) (a0 : Nat) (a1 : Nat) (a2 : Nat) (z0 : Nat) (o_from : Int64) (o_to : Int64) (o_spots : Nat → Int64) (o_memo : Nat → Int64) (o_board_size : Int32) (o_board_cells : Int32) (o_board_all : Int64) (o_board_upper : Int64) (o_board_lower : Int64) (o_board_left : Int64) (o_board_right : Int64) (p1 : Int64) (p2 : Int64) (p3 : Int32) (p4 : Int32) (p5 : Int32) (o : Int32 × (Nat → Int64)), oc o_from o_to o_spots o_memo o_board_size o_board_cells o_board_all o_board_left o_board_right p1 p2 p3 p4 p5 = some o → Met l yX1_outcome (wl yX1_outcome cX1_outcome 9 (some .int)) (R_X1_outcome d9) (PWX [.ref a0, .long p1, .long p2, .int p3, .int p4, .int p5] D C tp sz (wX1 C a0 a1 a2 z0 o_from o_to o_spots o_memo) [cX0 z0 o_board_size o_board_cells o_board_all o_board_upper o_board_lower o_board_left o_board_right]) (QWi D o.1 (wX1 C a0 a1 a2 z0 o_from o_to o_spots o.2) (va_A (wX1 C a0 a1 a2 z0 o_from o_to o_spots o_memo) sz)) 0 0 (va_A (wX1 C a0 a1 a2 z0 o_from o_to o_spots o_memo) sz)) (o : Int32 × (Nat → Int64)) (hf : m_X1_bestOutcome o_from o_to o_spots o_memo o_board_size o_board_cells o_board_all o_board_left o_board_right p1 p2 p3 p4 p5 oc = some o) : Met l yX1_bestOutcome (wl yX1_bestOutcome cX1_bestOutcome 14 (some .int)) (R_X1_bestOutcome d9) (PWX [.ref a0, .long p1, .long p2, .int p3, .int p4, .int p5] D C tp sz (wX1 C a0 a1 a2 z0 o_from o_to o_spots o_memo) [cX0 z0 o_board_size o_board_cells o_board_all o_board_upper o_board_lower o_board_left o_board_right]) (QWi D o.1 (wX1 C a0 a1 a2 z0 o_from o_to o_spots o.2) (va_A (wX1 C a0 a1 a2 z0 o_from o_to o_spots o_memo) sz)) 0 0 (va_A (wX1 C a0 a1 a2 z0 o_from o_to o_spots o_memo) sz) := by
  refine Met_ofC (by decide) ?_
  intro p e s m args below meth c hc hv
  obtain ⟨rfl, hsz, hP, hK, hD0, hO, hN0, hT0⟩ := hv
  subst hsz
  have hT : Xt tp (va_A (wX1 C a0 a1 a2 z0 o_from o_to o_spots o_memo) s.heap.size) s s.heap := hT0
  have hD := hD0.self (sz := s.heap.size)
  have hN : ∀ q ∈ [cX0 z0 o_board_size o_board_cells o_board_all o_board_upper o_board_lower o_board_left o_board_right], ¬ va_A (wX1 C a0 a1 a2 z0 o_from o_to o_spots o_memo) s.heap.size q.1 := hN0
  generalize hAe : va_A (wX1 C a0 a1 a2 z0 o_from o_to o_spots o_memo) s.heap.size = A at hD hN hT ⊢
  have hA : ∀ q : Nat, s.heap.size ≤ q → A q := fun q h => by rw [← hAe]; exact Or.inr h
  have hS : va_S A s.heap s.heap [] := va_S.rf
  have hx := hc.1
  have hb := hc.2.1
  have hown := hc.2.2.2.2.1
  have hts := hc.2.2.2.2.2.1
  refine en_F rfl (fun ls hl => ?_)
  have hl : lv_has ls 14 [(0, .ref a0), (1, .long p1), (3, .long p2), (5, .int p3), (6, .int p4), (7, .int p5)] := hl
  refine lv_iconst (v := (-1 : Int32)) hx hb dX1_bestOutcome_0 (by decide) ?_
  refine lv_istore (lv' := [(8, .int (-1 : Int32)), (0, .ref a0), (1, .long p1), (3, .long p2), (5, .int p3), (6, .int p4), (7, .int p5)]) hx hb dX1_bestOutcome_1 hl (by decide) rfl (fun ls hl => ?_)
  refine lv_iload hx hb dX1_bestOutcome_3 (lv_at hl 4 rfl) ?_
  refine lv_if_eq (tgt := 12) hx hb dX1_bestOutcome_5 (by decide) (fun c1 => ?_) (fun c1 => ?_)
  · have hf := if_t hf c1
    refine lv_iconst (v := (2 : Int32)) hx hb dX1_bestOutcome_12 (by decide) ?_
    exact w_X1_bestOutcome_c13 hc hK hA hO hN hT hoc  (-1 : Int32) (2 : Int32) o_memo hf _ _ hP hD hS ls (lv_sub hl [1, 2, 3, 4, 5, 6, 0] rfl)
  · have hf := if_f hf c1
    refine lv_iconst (v := (1 : Int32)) hx hb dX1_bestOutcome_8 (by decide) ?_
    refine lv_goto (tgt := 13) hx hb dX1_bestOutcome_9 (by decide) ?_
    exact w_X1_bestOutcome_c13 hc hK hA hO hN hT hoc  (-1 : Int32) (1 : Int32) o_memo hf _ _ hP hD hS ls (lv_sub hl [1, 2, 3, 4, 5, 6, 0] rfl)
abbrev R_X1_outcomeB (d9 : Nat) : Room := { frames := 2 * (d9 + 1) + 10, cells := 0, slots := 0, locals := 100 * (d9 + 1) + 500 }
def m_X1_outcomeB_c104 (p4 : Int32)  (v8 : Int32) (o_memo : Nat → Int64) : Option (Int32 × (Nat → Int64)) := ((m_X1_remember o_memo p4 (v8 + (1 : Int32))).bind fun u10 => some (v8, u10))
set_option maxHeartbeats 4000000 in
set_option maxRecDepth 100000 in
theorem w_X1_outcomeB_c104 {p : Program} {l : Launch} {e : Env} {s : State} {m : MethodId} {args : Array Value} {below : List Frame} {meth : Method} {c : Code} {D : va_G} {C : Nat → ClassId} {A : Nat → Prop} {tp : Nat} {a0 : Nat} {a1 : Nat} {a2 : Nat} {z0 : Nat} {o_from : Int64} {o_to : Int64} {o_spots : Nat → Int64} {o_board_size : Int32} {o_board_cells : Int32} {o_board_all : Int64} {o_board_upper : Int64} {o_board_lower : Int64} {o_board_left : Int64} {o_board_right : Int64} {p4 : Int32} {d9 : Nat} {oc : Int64 → Int64 → (Nat → Int64) → (Nat → Int64) → Int32 → Int32 → Int64 → Int64 → Int64 → Int64 → Int64 → Int32 → Int32 → Int32 → Option (Int32 × (Nat → Int64))} {o : Int32 × (Nat → Int64)} (hc : Cx p s m args meth c yX1_outcome cX1_outcome 9 (some .int)) (hK : va_K D vwCl (TY C) s) (hA : ∀ q : Nat, s.heap.size ≤ q → A q) (hO : va_P D vwCl [cX0 z0 o_board_size o_board_cells o_board_all o_board_upper o_board_lower o_board_left o_board_right] s.heap) (hN : ∀ q ∈ [cX0 z0 o_board_size o_board_cells o_board_all o_board_upper o_board_lower o_board_left o_board_right], ¬ A q.1) (hT : Xt tp A s s.heap) (hoc : ∀ (sz : Nat) (a0 : Nat) (a1 : Nat) (a2 : Nat) (z0 : Nat) (o_from : Int64) (o_to : Int64) (o_spots : Nat → Int64) (o_memo : Nat → Int64) (o_board_size : Int32) (o_board_cells : Int32) (o_board_all : Int64) (o_board_upper : Int64) (o_board_lower : Int64) (o_board_left : Int64) (o_board_right : Int64) (p1 : Int64) (p2 : Int64) (p3 : Int32) (p4 : Int32) (p5 : Int32) (o : Int32 × (Nat → Int64)), oc o_from o_to o_spots o_memo o_board_size o_board_cells o_board_all o_board_left o_board_right p1 p2 p3 p4 p5 = some o → Met l yX1_outcome (wl yX1_outcome cX1_outcome 9 (some .int)) (R_X1_outcome d9) (PWX [.ref a0, .long p1, .long p2, .int p3, .int p4, .int p5] D C tp sz (wX1 C a0 a1 a2 z0 o_from o_to o_spots o_memo) [cX0 z0 o_board_size o_board_cells o_board_all o_board_upper o_board_lower o_board_left o_board_right]) (QWi D o.1 (wX1 C a0 a1 a2 z0 o_from o_to o_spots o.2) (va_A (wX1 C a0 a1 a2 z0 o_from o_to o_spots o_memo) sz)) 0 0 (va_A (wX1 C a0 a1 a2 z0 o_from o_to o_spots o_memo) sz)) : ∀ (v8 : Int32) (o_memo : Nat → Int64), m_X1_outcomeB_c104 p4  v8 o_memo = some o → ∀ (H : Heap) (locs : List Loc), va_P D vwCl (wX1 C a0 a1 a2 z0 o_from o_to o_spots o_memo) H → va_D A (wX1 C a0 a1 a2 z0 o_from o_to o_spots o_memo) → va_S A s.heap H locs → ∀ (ls : Array Slot), lv_has ls 9 [(0, .ref a0), (6, .int p4), (8, .int v8)] → W p l e (R_X1_outcomeB d9) s m args below meth c H locs 0 0 (MQ below (QWi D o.1 (wX1 C a0 a1 a2 z0 o_from o_to o_spots o.2) A) args s 0 0 A) (F0 m 104 ls []) := by
  have hx := hc.1
  have hb := hc.2.1
  have hown := hc.2.2.2.2.1
  have hts := hc.2.2.2.2.2.1
  intro v8 o_memo hf H locs hP hD hS ls hl
  refine lv_aload_n hx hb dX1_outcome_104 rfl (lv_at hl 0 rfl) ?_
  refine lv_iload hx hb dX1_outcome_105 (lv_at hl 1 rfl) ?_
  refine lv_iload hx hb dX1_outcome_107 (lv_at hl 2 rfl) ?_
  refine lv_iconst (v := (1 : Int32)) hx hb dX1_outcome_109 (by decide) ?_
  refine lv_iadd hx hb dX1_outcome_110 ?_
  obtain ⟨u10, hu10, hf⟩ := bind_some hf
  refine wcVv (A := A) (wc := wX1 C a0 a1 a2 z0 o_from o_to o_spots o_memo) (w1 := wX1 C a0 a1 a2 z0 o_from o_to o_spots u10) (rc := []) (As := [.int p4, .int (v8 + (1 : Int32))]) (rest := []) hc k_X1_46 (c_X1_remember l D C _ a0 a1 a2 z0 o_from o_to o_spots o_memo p4 (v8 + (1 : Int32))  _ hu10) ⟨rfl, rfl, (by show 0 + 1 ≤ 2 * (d9 + 1) + 10; omega), (by show 8 + (4 + 11) + (0) ≤ 100 * (d9 + 1) + 500; omega)⟩ hP hD hS hA hK [0, 1, 2] [] rfl rfl rfl rfl (by decide) (hP.sub [] rfl) Ap_nil (q0 := 0) rfl rfl rfl hl rfl rfl (Nat.le_of_ble_eq_true rfl) ⟨Nat.zero_le _, Nat.zero_le _⟩ dX1_outcome_111 (fun H locs hP hD hS => ?_)
  have hP : va_P D vwCl (wX1 C a0 a1 a2 z0 o_from o_to o_spots u10) H := hP.sub [0, 1, 2] rfl
  have hD : va_D A (wX1 C a0 a1 a2 z0 o_from o_to o_spots u10) := hD.sub [0, 1, 2] rfl rfl
  refine lv_iload hx hb dX1_outcome_114 (lv_at hl 2 rfl) ?_
  have hf := Option.some.inj hf
  subst hf
  exact rWi hc rfl hP hD hS dX1_outcome_116
def m_X1_outcomeB_c90 (o_from : Int64) (o_to : Int64) (o_spots : Nat → Int64) (o_board_size : Int32) (o_board_cells : Int32) (o_board_all : Int64) (o_board_left : Int64) (o_board_right : Int64) (p1 : Int64) (p2 : Int64) (p3 : Int32) (p4 : Int32) (p5 : Int32) (oc : Int64 → Int64 → (Nat → Int64) → (Nat → Int64) → Int32 → Int32 → Int64 → Int64 → Int64 → Int64 → Int64 → Int32 → Int32 → Int32 → Option (Int32 × (Nat → Int64)))  (o_memo : Nat → Int64) : Option (Int32 × (Nat → Int64)) := ((m_X1_bestOutcome o_from o_to o_spots o_memo o_board_size o_board_cells o_board_all o_board_left o_board_right p1 p2 p3 p4 p5 oc).bind fun u9 => (m_X1_outcomeB_c104 p4 u9.1 u9.2))
set_option maxHeartbeats 4000000 in
set_option maxRecDepth 100000 in
theorem w_X1_outcomeB_c90 {p : Program} {l : Launch} {e : Env} {s : State} {m : MethodId} {args : Array Value} {below : List Frame} {meth : Method} {c : Code} {D : va_G} {C : Nat → ClassId} {A : Nat → Prop} {tp : Nat} {a0 : Nat} {a1 : Nat} {a2 : Nat} {z0 : Nat} {o_from : Int64} {o_to : Int64} {o_spots : Nat → Int64} {o_board_size : Int32} {o_board_cells : Int32} {o_board_all : Int64} {o_board_upper : Int64} {o_board_lower : Int64} {o_board_left : Int64} {o_board_right : Int64} {p1 : Int64} {p2 : Int64} {p3 : Int32} {p4 : Int32} {p5 : Int32} {d9 : Nat} {oc : Int64 → Int64 → (Nat → Int64) → (Nat → Int64) → Int32 → Int32 → Int64 → Int64 → Int64 → Int64 → Int64 → Int32 → Int32 → Int32 → Option (Int32 × (Nat → Int64))} {o : Int32 × (Nat → Int64)} (hc : Cx p s m args meth c yX1_outcome cX1_outcome 9 (some .int)) (hK : va_K D vwCl (TY C) s) (hA : ∀ q : Nat, s.heap.size ≤ q → A q) (hO : va_P D vwCl [cX0 z0 o_board_size o_board_cells o_board_all o_board_upper o_board_lower o_board_left o_board_right] s.heap) (hN : ∀ q ∈ [cX0 z0 o_board_size o_board_cells o_board_all o_board_upper o_board_lower o_board_left o_board_right], ¬ A q.1) (hT : Xt tp A s s.heap) (hoc : ∀ (sz : Nat) (a0 : Nat) (a1 : Nat) (a2 : Nat) (z0 : Nat) (o_from : Int64) (o_to : Int64) (o_spots : Nat → Int64) (o_memo : Nat → Int64) (o_board_size : Int32) (o_board_cells : Int32) (o_board_all : Int64) (o_board_upper : Int64) (o_board_lower : Int64) (o_board_left : Int64) (o_board_right : Int64) (p1 : Int64) (p2 : Int64) (p3 : Int32) (p4 : Int32) (p5 : Int32) (o : Int32 × (Nat → Int64)), oc o_from o_to o_spots o_memo o_board_size o_board_cells o_board_all o_board_left o_board_right p1 p2 p3 p4 p5 = some o → Met l yX1_outcome (wl yX1_outcome cX1_outcome 9 (some .int)) (R_X1_outcome d9) (PWX [.ref a0, .long p1, .long p2, .int p3, .int p4, .int p5] D C tp sz (wX1 C a0 a1 a2 z0 o_from o_to o_spots o_memo) [cX0 z0 o_board_size o_board_cells o_board_all o_board_upper o_board_lower o_board_left o_board_right]) (QWi D o.1 (wX1 C a0 a1 a2 z0 o_from o_to o_spots o.2) (va_A (wX1 C a0 a1 a2 z0 o_from o_to o_spots o_memo) sz)) 0 0 (va_A (wX1 C a0 a1 a2 z0 o_from o_to o_spots o_memo) sz)) : ∀ (o_memo : Nat → Int64), m_X1_outcomeB_c90 o_from o_to o_spots o_board_size o_board_cells o_board_all o_board_left o_board_right p1 p2 p3 p4 p5 oc  o_memo = some o → ∀ (H : Heap) (locs : List Loc), va_P D vwCl (wX1 C a0 a1 a2 z0 o_from o_to o_spots o_memo) H → va_D A (wX1 C a0 a1 a2 z0 o_from o_to o_spots o_memo) → va_S A s.heap H locs → ∀ (ls : Array Slot), lv_has ls 9 [(0, .ref a0), (1, .long p1), (3, .long p2), (5, .int p3), (6, .int p4), (7, .int p5)] → W p l e (R_X1_outcomeB d9) s m args below meth c H locs 0 0 (MQ below (QWi D o.1 (wX1 C a0 a1 a2 z0 o_from o_to o_spots o.2) A) args s 0 0 A) (F0 m 90 ls []) := by
  have hx := hc.1
  have hb := hc.2.1
  have hown := hc.2.2.2.2.1
  have hts := hc.2.2.2.2.2.1
  intro o_memo hf H locs hP hD hS ls hl
  refine lv_aload_n hx hb dX1_outcome_90 rfl (lv_at hl 0 rfl) ?_
  refine lv_lload_n hx hb dX1_outcome_91 rfl (lv_at hl 1 rfl) ?_
  refine lv_lload_n hx hb dX1_outcome_92 rfl (lv_at hl 2 rfl) ?_
  refine lv_iload hx hb dX1_outcome_93 (lv_at hl 3 rfl) ?_
  refine lv_iload hx hb dX1_outcome_95 (lv_at hl 4 rfl) ?_
  refine lv_iload hx hb dX1_outcome_97 (lv_at hl 5 rfl) ?_
  obtain ⟨u9, hu9, hf⟩ := bind_some hf
  refine wcViX (A := A) (wc := wX1 C a0 a1 a2 z0 o_from o_to o_spots o_memo) (w1 := wX1 C a0 a1 a2 z0 o_from o_to o_spots u9.2) (rc := [cX0 z0 o_board_size o_board_cells o_board_all o_board_upper o_board_lower o_board_left o_board_right]) (As := [.long p1, .long p2, .int p3, .int p4, .int p5]) (rest := []) hc k_X1_43 (c_X1_bestOutcome l D C tp _ a0 a1 a2 z0 o_from o_to o_spots o_memo o_board_size o_board_cells o_board_all o_board_upper o_board_lower o_board_left o_board_right p1 p2 p3 p4 p5 d9 oc hoc _ hu9) ⟨rfl, rfl, (by show 2 * d9 + 11 + 1 ≤ 2 * (d9 + 1) + 10; omega), (by show 8 + (14 + 11) + (100 * d9 + 550) ≤ 100 * (d9 + 1) + 500; omega)⟩ hP hD hS hA hK [0, 1, 2] [] rfl rfl rfl rfl (by decide) ((hP.app (ro_S hO hN hS)).sub [3] rfl) (Ap_cons (fun h9 => hN _ (List.mem_of_getElem? (i := 0) rfl) (va_free (wc := wX1 C a0 a1 a2 z0 o_from o_to o_spots o_memo) hD hS hA [0, 1, 2] rfl _ h9)) Ap_nil) hT (q0 := 0) rfl rfl rfl hl rfl rfl (Nat.le_of_ble_eq_true rfl) ⟨Nat.zero_le _, Nat.zero_le _⟩ dX1_outcome_99 (fun H locs hP hD hS => ?_)
  have hP : va_P D vwCl (wX1 C a0 a1 a2 z0 o_from o_to o_spots u9.2) H := hP.sub [0, 1, 2] rfl
  have hD : va_D A (wX1 C a0 a1 a2 z0 o_from o_to o_spots u9.2) := hD.sub [0, 1, 2] rfl rfl
  refine lv_istore (lv' := [(8, .int u9.1), (0, .ref a0), (1, .long p1), (3, .long p2), (5, .int p3), (6, .int p4), (7, .int p5)]) hx hb dX1_outcome_102 hl (by decide) rfl (fun ls hl => ?_)
  exact w_X1_outcomeB_c104 hc hK hA hO hN hT hoc  u9.1 u9.2 hf _ _ hP hD hS ls (lv_sub hl [1, 5, 0] rfl)
def m_X1_outcomeB_c63 (o_from : Int64) (o_to : Int64) (o_spots : Nat → Int64) (o_board_size : Int32) (o_board_cells : Int32) (o_board_all : Int64) (o_board_left : Int64) (o_board_right : Int64) (p1 : Int64) (p2 : Int64) (p3 : Int32) (p4 : Int32) (p5 : Int32) (oc : Int64 → Int64 → (Nat → Int64) → (Nat → Int64) → Int32 → Int32 → Int64 → Int64 → Int64 → Int64 → Int64 → Int32 → Int32 → Int32 → Option (Int32 × (Nat → Int64)))  (o_memo : Nat → Int64) : Option (Int32 × (Nat → Int64)) := ((m_X0_linked o_board_size o_board_cells o_board_all o_board_left o_board_right (p1 ||| p2) o_from o_to).bind fun u7 => (if u7 = 0 then (m_X1_outcomeB_c104 p4 (0 : Int32) o_memo) else (m_X1_outcomeB_c90 o_from o_to o_spots o_board_size o_board_cells o_board_all o_board_left o_board_right p1 p2 p3 p4 p5 oc o_memo)))
set_option maxHeartbeats 4000000 in
set_option maxRecDepth 100000 in
theorem w_X1_outcomeB_c63 {p : Program} {l : Launch} {e : Env} {s : State} {m : MethodId} {args : Array Value} {below : List Frame} {meth : Method} {c : Code} {D : va_G} {C : Nat → ClassId} {A : Nat → Prop} {tp : Nat} {a0 : Nat} {a1 : Nat} {a2 : Nat} {z0 : Nat} {o_from : Int64} {o_to : Int64} {o_spots : Nat → Int64} {o_board_size : Int32} {o_board_cells : Int32} {o_board_all : Int64} {o_board_upper : Int64} {o_board_lower : Int64} {o_board_left : Int64} {o_board_right : Int64} {p1 : Int64} {p2 : Int64} {p3 : Int32} {p4 : Int32} {p5 : Int32} {d9 : Nat} {oc : Int64 → Int64 → (Nat → Int64) → (Nat → Int64) → Int32 → Int32 → Int64 → Int64 → Int64 → Int64 → Int64 → Int32 → Int32 → Int32 → Option (Int32 × (Nat → Int64))} {o : Int32 × (Nat → Int64)} (hc : Cx p s m args meth c yX1_outcome cX1_outcome 9 (some .int)) (hK : va_K D vwCl (TY C) s) (hA : ∀ q : Nat, s.heap.size ≤ q → A q) (hO : va_P D vwCl [cX0 z0 o_board_size o_board_cells o_board_all o_board_upper o_board_lower o_board_left o_board_right] s.heap) (hN : ∀ q ∈ [cX0 z0 o_board_size o_board_cells o_board_all o_board_upper o_board_lower o_board_left o_board_right], ¬ A q.1) (hT : Xt tp A s s.heap) (hoc : ∀ (sz : Nat) (a0 : Nat) (a1 : Nat) (a2 : Nat) (z0 : Nat) (o_from : Int64) (o_to : Int64) (o_spots : Nat → Int64) (o_memo : Nat → Int64) (o_board_size : Int32) (o_board_cells : Int32) (o_board_all : Int64) (o_board_upper : Int64) (o_board_lower : Int64) (o_board_left : Int64) (o_board_right : Int64) (p1 : Int64) (p2 : Int64) (p3 : Int32) (p4 : Int32) (p5 : Int32) (o : Int32 × (Nat → Int64)), oc o_from o_to o_spots o_memo o_board_size o_board_cells o_board_all o_board_left o_board_right p1 p2 p3 p4 p5 = some o → Met l yX1_outcome (wl yX1_outcome cX1_outcome 9 (some .int)) (R_X1_outcome d9) (PWX [.ref a0, .long p1, .long p2, .int p3, .int p4, .int p5] D C tp sz (wX1 C a0 a1 a2 z0 o_from o_to o_spots o_memo) [cX0 z0 o_board_size o_board_cells o_board_all o_board_upper o_board_lower o_board_left o_board_right]) (QWi D o.1 (wX1 C a0 a1 a2 z0 o_from o_to o_spots o.2) (va_A (wX1 C a0 a1 a2 z0 o_from o_to o_spots o_memo) sz)) 0 0 (va_A (wX1 C a0 a1 a2 z0 o_from o_to o_spots o_memo) sz)) : ∀ (o_memo : Nat → Int64), m_X1_outcomeB_c63 o_from o_to o_spots o_board_size o_board_cells o_board_all o_board_left o_board_right p1 p2 p3 p4 p5 oc  o_memo = some o → ∀ (H : Heap) (locs : List Loc), va_P D vwCl (wX1 C a0 a1 a2 z0 o_from o_to o_spots o_memo) H → va_D A (wX1 C a0 a1 a2 z0 o_from o_to o_spots o_memo) → va_S A s.heap H locs → ∀ (ls : Array Slot), lv_has ls 9 [(0, .ref a0), (1, .long p1), (3, .long p2), (5, .int p3), (6, .int p4), (7, .int p5)] → W p l e (R_X1_outcomeB d9) s m args below meth c H locs 0 0 (MQ below (QWi D o.1 (wX1 C a0 a1 a2 z0 o_from o_to o_spots o.2) A) args s 0 0 A) (F0 m 63 ls []) := by
  have hx := hc.1
  have hb := hc.2.1
  have hown := hc.2.2.2.2.1
  have hts := hc.2.2.2.2.2.1
  intro o_memo hf H locs hP hD hS ls hl
  refine lv_aload_n hx hb dX1_outcome_63 rfl (lv_at hl 0 rfl) ?_
  refine va_get (D := D) (ci := 1) (v := .ref z0) (C := RX1) (T := TX1) (N := 5) hx hb hts inX1 hown hK hP 0 rfl rfl 0 (by decide) (hts _ q_121) (fun _ h9 => h9) rfl dX1_outcome_64 ?_
  refine lv_lload_n hx hb dX1_outcome_67 rfl (lv_at hl 1 rfl) ?_
  refine lv_lload_n hx hb dX1_outcome_68 rfl (lv_at hl 2 rfl) ?_
  refine lv_lor hx hb dX1_outcome_69 ?_
  refine lv_aload_n hx hb dX1_outcome_70 rfl (lv_at hl 0 rfl) ?_
  refine va_get (D := D) (ci := 1) (v := .long o_from) (C := RX1) (T := TX1) (N := 5) hx hb hts inX1 hown hK hP 0 rfl rfl 1 (by decide) (hts _ q_122) (fun _ h9 => h9) rfl dX1_outcome_71 ?_
  refine lv_aload_n hx hb dX1_outcome_74 rfl (lv_at hl 0 rfl) ?_
  refine va_get (D := D) (ci := 1) (v := .long o_to) (C := RX1) (T := TX1) (N := 5) hx hb hts inX1 hown hK hP 0 rfl rfl 2 (by decide) (hts _ q_123) (fun _ h9 => h9) rfl dX1_outcome_75 ?_
  obtain ⟨u7, hu7, hf⟩ := bind_some hf
  refine rcVi (As := [.long (p1 ||| p2), .long o_from, .long o_to]) (rest := []) hc k_X1_37 (c_X0_linked l D C z0 o_board_size o_board_cells o_board_all o_board_upper o_board_lower o_board_left o_board_right (p1 ||| p2) o_from o_to  _ hu7) ⟨rfl, rfl, (by show 2 + 1 ≤ 2 * (d9 + 1) + 10; omega), (by show 8 + (7 + 11) + (57) ≤ 100 * (d9 + 1) + 500; omega)⟩ ((hP.app (ro_S hO hN hS)).sub [3] rfl) hK (q0 := 0) rfl rfl rfl hl rfl rfl (Nat.le_of_ble_eq_true rfl) ⟨Nat.zero_le _, Nat.zero_le _⟩ dX1_outcome_78 ?_
  refine lv_if_ne (tgt := 90) hx hb dX1_outcome_81 (by decide) (fun c8 => ?_) (fun c8 => ?_)
  · have hf := if_f hf c8
    exact w_X1_outcomeB_c90 hc hK hA hO hN hT hoc  o_memo hf _ _ hP hD hS ls (lv_sub hl [0, 1, 2, 3, 4, 5] rfl)
  · have hf := if_t hf c8
    refine lv_iconst (v := (0 : Int32)) hx hb dX1_outcome_84 (by decide) ?_
    refine lv_istore (lv' := [(8, .int (0 : Int32)), (0, .ref a0), (1, .long p1), (3, .long p2), (5, .int p3), (6, .int p4), (7, .int p5)]) hx hb dX1_outcome_85 hl (by decide) rfl (fun ls hl => ?_)
    refine lv_goto (tgt := 104) hx hb dX1_outcome_87 (by decide) ?_
    exact w_X1_outcomeB_c104 hc hK hA hO hN hT hoc  (0 : Int32) o_memo hf _ _ hP hD hS ls (lv_sub hl [1, 5, 0] rfl)
def m_X1_outcomeB_c53 (o_from : Int64) (o_to : Int64) (o_spots : Nat → Int64) (o_board_size : Int32) (o_board_cells : Int32) (o_board_all : Int64) (o_board_left : Int64) (o_board_right : Int64) (p1 : Int64) (p2 : Int64) (p3 : Int32) (p4 : Int32) (p5 : Int32) (oc : Int64 → Int64 → (Nat → Int64) → (Nat → Int64) → Int32 → Int32 → Int64 → Int64 → Int64 → Int64 → Int64 → Int32 → Int32 → Int32 → Option (Int32 × (Nat → Int64)))  (o_memo : Nat → Int64) : Option (Int32 × (Nat → Int64)) := (if p5 = 0 then (m_X1_outcomeB_c63 o_from o_to o_spots o_board_size o_board_cells o_board_all o_board_left o_board_right p1 p2 p3 p4 p5 oc o_memo) else (if p3 = 0 then (m_X1_outcomeB_c90 o_from o_to o_spots o_board_size o_board_cells o_board_all o_board_left o_board_right p1 p2 p3 p4 p5 oc o_memo) else (m_X1_outcomeB_c63 o_from o_to o_spots o_board_size o_board_cells o_board_all o_board_left o_board_right p1 p2 p3 p4 p5 oc o_memo)))
set_option maxHeartbeats 4000000 in
set_option maxRecDepth 100000 in
theorem w_X1_outcomeB_c53 {p : Program} {l : Launch} {e : Env} {s : State} {m : MethodId} {args : Array Value} {below : List Frame} {meth : Method} {c : Code} {D : va_G} {C : Nat → ClassId} {A : Nat → Prop} {tp : Nat} {a0 : Nat} {a1 : Nat} {a2 : Nat} {z0 : Nat} {o_from : Int64} {o_to : Int64} {o_spots : Nat → Int64} {o_board_size : Int32} {o_board_cells : Int32} {o_board_all : Int64} {o_board_upper : Int64} {o_board_lower : Int64} {o_board_left : Int64} {o_board_right : Int64} {p1 : Int64} {p2 : Int64} {p3 : Int32} {p4 : Int32} {p5 : Int32} {d9 : Nat} {oc : Int64 → Int64 → (Nat → Int64) → (Nat → Int64) → Int32 → Int32 → Int64 → Int64 → Int64 → Int64 → Int64 → Int32 → Int32 → Int32 → Option (Int32 × (Nat → Int64))} {o : Int32 × (Nat → Int64)} (hc : Cx p s m args meth c yX1_outcome cX1_outcome 9 (some .int)) (hK : va_K D vwCl (TY C) s) (hA : ∀ q : Nat, s.heap.size ≤ q → A q) (hO : va_P D vwCl [cX0 z0 o_board_size o_board_cells o_board_all o_board_upper o_board_lower o_board_left o_board_right] s.heap) (hN : ∀ q ∈ [cX0 z0 o_board_size o_board_cells o_board_all o_board_upper o_board_lower o_board_left o_board_right], ¬ A q.1) (hT : Xt tp A s s.heap) (hoc : ∀ (sz : Nat) (a0 : Nat) (a1 : Nat) (a2 : Nat) (z0 : Nat) (o_from : Int64) (o_to : Int64) (o_spots : Nat → Int64) (o_memo : Nat → Int64) (o_board_size : Int32) (o_board_cells : Int32) (o_board_all : Int64) (o_board_upper : Int64) (o_board_lower : Int64) (o_board_left : Int64) (o_board_right : Int64) (p1 : Int64) (p2 : Int64) (p3 : Int32) (p4 : Int32) (p5 : Int32) (o : Int32 × (Nat → Int64)), oc o_from o_to o_spots o_memo o_board_size o_board_cells o_board_all o_board_left o_board_right p1 p2 p3 p4 p5 = some o → Met l yX1_outcome (wl yX1_outcome cX1_outcome 9 (some .int)) (R_X1_outcome d9) (PWX [.ref a0, .long p1, .long p2, .int p3, .int p4, .int p5] D C tp sz (wX1 C a0 a1 a2 z0 o_from o_to o_spots o_memo) [cX0 z0 o_board_size o_board_cells o_board_all o_board_upper o_board_lower o_board_left o_board_right]) (QWi D o.1 (wX1 C a0 a1 a2 z0 o_from o_to o_spots o.2) (va_A (wX1 C a0 a1 a2 z0 o_from o_to o_spots o_memo) sz)) 0 0 (va_A (wX1 C a0 a1 a2 z0 o_from o_to o_spots o_memo) sz)) : ∀ (o_memo : Nat → Int64), m_X1_outcomeB_c53 o_from o_to o_spots o_board_size o_board_cells o_board_all o_board_left o_board_right p1 p2 p3 p4 p5 oc  o_memo = some o → ∀ (H : Heap) (locs : List Loc), va_P D vwCl (wX1 C a0 a1 a2 z0 o_from o_to o_spots o_memo) H → va_D A (wX1 C a0 a1 a2 z0 o_from o_to o_spots o_memo) → va_S A s.heap H locs → ∀ (ls : Array Slot), lv_has ls 9 [(0, .ref a0), (1, .long p1), (3, .long p2), (5, .int p3), (6, .int p4), (7, .int p5)] → W p l e (R_X1_outcomeB d9) s m args below meth c H locs 0 0 (MQ below (QWi D o.1 (wX1 C a0 a1 a2 z0 o_from o_to o_spots o.2) A) args s 0 0 A) (F0 m 53 ls []) := by
  have hx := hc.1
  have hb := hc.2.1
  have hown := hc.2.2.2.2.1
  have hts := hc.2.2.2.2.2.1
  intro o_memo hf H locs hP hD hS ls hl
  refine lv_iload hx hb dX1_outcome_53 (lv_at hl 5 rfl) ?_
  refine lv_if_eq (tgt := 63) hx hb dX1_outcome_55 (by decide) (fun c6 => ?_) (fun c6 => ?_)
  · have hf := if_t hf c6
    exact w_X1_outcomeB_c63 hc hK hA hO hN hT hoc  o_memo hf _ _ hP hD hS ls (lv_sub hl [0, 1, 2, 3, 4, 5] rfl)
  · have hf := if_f hf c6
    refine lv_iload hx hb dX1_outcome_58 (lv_at hl 3 rfl) ?_
    refine lv_if_eq (tgt := 90) hx hb dX1_outcome_60 (by decide) (fun c11 => ?_) (fun c11 => ?_)
    · have hf := if_t hf c11
      exact w_X1_outcomeB_c90 hc hK hA hO hN hT hoc  o_memo hf _ _ hP hD hS ls (lv_sub hl [0, 1, 2, 3, 4, 5] rfl)
    · have hf := if_f hf c11
      exact w_X1_outcomeB_c63 hc hK hA hO hN hT hoc  o_memo hf _ _ hP hD hS ls (lv_sub hl [0, 1, 2, 3, 4, 5] rfl)
def m_X1_outcomeB_c28 (o_from : Int64) (o_to : Int64) (o_spots : Nat → Int64) (o_board_size : Int32) (o_board_cells : Int32) (o_board_all : Int64) (o_board_left : Int64) (o_board_right : Int64) (p1 : Int64) (p2 : Int64) (p3 : Int32) (p4 : Int32) (p5 : Int32) (oc : Int64 → Int64 → (Nat → Int64) → (Nat → Int64) → Int32 → Int32 → Int64 → Int64 → Int64 → Int64 → Int64 → Int32 → Int32 → Int32 → Option (Int32 × (Nat → Int64)))  (o_memo : Nat → Int64) : Option (Int32 × (Nat → Int64)) := ((m_X0_linked o_board_size o_board_cells o_board_all o_board_left o_board_right p1 o_from o_to).bind fun u4 => (if u4 = 0 then (m_X1_outcomeB_c53 o_from o_to o_spots o_board_size o_board_cells o_board_all o_board_left o_board_right p1 p2 p3 p4 p5 oc o_memo) else (m_X1_outcomeB_c104 p4 (1 : Int32) o_memo)))
set_option maxHeartbeats 4000000 in
set_option maxRecDepth 100000 in
theorem w_X1_outcomeB_c28 {p : Program} {l : Launch} {e : Env} {s : State} {m : MethodId} {args : Array Value} {below : List Frame} {meth : Method} {c : Code} {D : va_G} {C : Nat → ClassId} {A : Nat → Prop} {tp : Nat} {a0 : Nat} {a1 : Nat} {a2 : Nat} {z0 : Nat} {o_from : Int64} {o_to : Int64} {o_spots : Nat → Int64} {o_board_size : Int32} {o_board_cells : Int32} {o_board_all : Int64} {o_board_upper : Int64} {o_board_lower : Int64} {o_board_left : Int64} {o_board_right : Int64} {p1 : Int64} {p2 : Int64} {p3 : Int32} {p4 : Int32} {p5 : Int32} {d9 : Nat} {oc : Int64 → Int64 → (Nat → Int64) → (Nat → Int64) → Int32 → Int32 → Int64 → Int64 → Int64 → Int64 → Int64 → Int32 → Int32 → Int32 → Option (Int32 × (Nat → Int64))} {o : Int32 × (Nat → Int64)} (hc : Cx p s m args meth c yX1_outcome cX1_outcome 9 (some .int)) (hK : va_K D vwCl (TY C) s) (hA : ∀ q : Nat, s.heap.size ≤ q → A q) (hO : va_P D vwCl [cX0 z0 o_board_size o_board_cells o_board_all o_board_upper o_board_lower o_board_left o_board_right] s.heap) (hN : ∀ q ∈ [cX0 z0 o_board_size o_board_cells o_board_all o_board_upper o_board_lower o_board_left o_board_right], ¬ A q.1) (hT : Xt tp A s s.heap) (hoc : ∀ (sz : Nat) (a0 : Nat) (a1 : Nat) (a2 : Nat) (z0 : Nat) (o_from : Int64) (o_to : Int64) (o_spots : Nat → Int64) (o_memo : Nat → Int64) (o_board_size : Int32) (o_board_cells : Int32) (o_board_all : Int64) (o_board_upper : Int64) (o_board_lower : Int64) (o_board_left : Int64) (o_board_right : Int64) (p1 : Int64) (p2 : Int64) (p3 : Int32) (p4 : Int32) (p5 : Int32) (o : Int32 × (Nat → Int64)), oc o_from o_to o_spots o_memo o_board_size o_board_cells o_board_all o_board_left o_board_right p1 p2 p3 p4 p5 = some o → Met l yX1_outcome (wl yX1_outcome cX1_outcome 9 (some .int)) (R_X1_outcome d9) (PWX [.ref a0, .long p1, .long p2, .int p3, .int p4, .int p5] D C tp sz (wX1 C a0 a1 a2 z0 o_from o_to o_spots o_memo) [cX0 z0 o_board_size o_board_cells o_board_all o_board_upper o_board_lower o_board_left o_board_right]) (QWi D o.1 (wX1 C a0 a1 a2 z0 o_from o_to o_spots o.2) (va_A (wX1 C a0 a1 a2 z0 o_from o_to o_spots o_memo) sz)) 0 0 (va_A (wX1 C a0 a1 a2 z0 o_from o_to o_spots o_memo) sz)) : ∀ (o_memo : Nat → Int64), m_X1_outcomeB_c28 o_from o_to o_spots o_board_size o_board_cells o_board_all o_board_left o_board_right p1 p2 p3 p4 p5 oc  o_memo = some o → ∀ (H : Heap) (locs : List Loc), va_P D vwCl (wX1 C a0 a1 a2 z0 o_from o_to o_spots o_memo) H → va_D A (wX1 C a0 a1 a2 z0 o_from o_to o_spots o_memo) → va_S A s.heap H locs → ∀ (ls : Array Slot), lv_has ls 9 [(0, .ref a0), (1, .long p1), (3, .long p2), (5, .int p3), (6, .int p4), (7, .int p5)] → W p l e (R_X1_outcomeB d9) s m args below meth c H locs 0 0 (MQ below (QWi D o.1 (wX1 C a0 a1 a2 z0 o_from o_to o_spots o.2) A) args s 0 0 A) (F0 m 28 ls []) := by
  have hx := hc.1
  have hb := hc.2.1
  have hown := hc.2.2.2.2.1
  have hts := hc.2.2.2.2.2.1
  intro o_memo hf H locs hP hD hS ls hl
  refine lv_aload_n hx hb dX1_outcome_28 rfl (lv_at hl 0 rfl) ?_
  refine va_get (D := D) (ci := 1) (v := .ref z0) (C := RX1) (T := TX1) (N := 5) hx hb hts inX1 hown hK hP 0 rfl rfl 0 (by decide) (hts _ q_121) (fun _ h9 => h9) rfl dX1_outcome_29 ?_
  refine lv_lload_n hx hb dX1_outcome_32 rfl (lv_at hl 1 rfl) ?_
  refine lv_aload_n hx hb dX1_outcome_33 rfl (lv_at hl 0 rfl) ?_
  refine va_get (D := D) (ci := 1) (v := .long o_from) (C := RX1) (T := TX1) (N := 5) hx hb hts inX1 hown hK hP 0 rfl rfl 1 (by decide) (hts _ q_122) (fun _ h9 => h9) rfl dX1_outcome_34 ?_
  refine lv_aload_n hx hb dX1_outcome_37 rfl (lv_at hl 0 rfl) ?_
  refine va_get (D := D) (ci := 1) (v := .long o_to) (C := RX1) (T := TX1) (N := 5) hx hb hts inX1 hown hK hP 0 rfl rfl 2 (by decide) (hts _ q_123) (fun _ h9 => h9) rfl dX1_outcome_38 ?_
  obtain ⟨u4, hu4, hf⟩ := bind_some hf
  refine rcVi (As := [.long p1, .long o_from, .long o_to]) (rest := []) hc k_X1_37 (c_X0_linked l D C z0 o_board_size o_board_cells o_board_all o_board_upper o_board_lower o_board_left o_board_right p1 o_from o_to  _ hu4) ⟨rfl, rfl, (by show 2 + 1 ≤ 2 * (d9 + 1) + 10; omega), (by show 8 + (7 + 11) + (57) ≤ 100 * (d9 + 1) + 500; omega)⟩ ((hP.app (ro_S hO hN hS)).sub [3] rfl) hK (q0 := 0) rfl rfl rfl hl rfl rfl (Nat.le_of_ble_eq_true rfl) ⟨Nat.zero_le _, Nat.zero_le _⟩ dX1_outcome_41 ?_
  refine lv_if_eq (tgt := 53) hx hb dX1_outcome_44 (by decide) (fun c5 => ?_) (fun c5 => ?_)
  · have hf := if_t hf c5
    exact w_X1_outcomeB_c53 hc hK hA hO hN hT hoc  o_memo hf _ _ hP hD hS ls (lv_sub hl [0, 1, 2, 3, 4, 5] rfl)
  · have hf := if_f hf c5
    refine lv_iconst (v := (1 : Int32)) hx hb dX1_outcome_47 (by decide) ?_
    refine lv_istore (lv' := [(8, .int (1 : Int32)), (0, .ref a0), (1, .long p1), (3, .long p2), (5, .int p3), (6, .int p4), (7, .int p5)]) hx hb dX1_outcome_48 hl (by decide) rfl (fun ls hl => ?_)
    refine lv_goto (tgt := 104) hx hb dX1_outcome_50 (by decide) ?_
    exact w_X1_outcomeB_c104 hc hK hA hO hN hT hoc  (1 : Int32) o_memo hf _ _ hP hD hS ls (lv_sub hl [1, 5, 0] rfl)
def m_X1_outcomeB (o_from : Int64) (o_to : Int64) (o_spots : Nat → Int64) (o_memo : Nat → Int64) (o_board_size : Int32) (o_board_cells : Int32) (o_board_all : Int64) (o_board_left : Int64) (o_board_right : Int64) (p1 : Int64) (p2 : Int64) (p3 : Int32) (p4 : Int32) (p5 : Int32) (oc : Int64 → Int64 → (Nat → Int64) → (Nat → Int64) → Int32 → Int32 → Int64 → Int64 → Int64 → Int64 → Int64 → Int32 → Int32 → Int32 → Option (Int32 × (Nat → Int64))) : Option (Int32 × (Nat → Int64)) := ((m_X1_recall o_memo p4).bind fun u1 => (if (u1 - (1 : Int32)) < 0 then (if p5 = 0 then (m_X1_outcomeB_c28 o_from o_to o_spots o_board_size o_board_cells o_board_all o_board_left o_board_right p1 p2 p3 p4 p5 oc o_memo) else (if p3 = 0 then (m_X1_outcomeB_c28 o_from o_to o_spots o_board_size o_board_cells o_board_all o_board_left o_board_right p1 p2 p3 p4 p5 oc o_memo) else (m_X1_outcomeB_c53 o_from o_to o_spots o_board_size o_board_cells o_board_all o_board_left o_board_right p1 p2 p3 p4 p5 oc o_memo))) else some ((u1 - (1 : Int32)), o_memo)))
set_option maxHeartbeats 4000000 in
set_option maxRecDepth 100000 in
theorem c_X1_outcomeB (l : Launch) (D : va_G) (C : Nat → ClassId) (tp : Nat) (sz : Nat) (a0 : Nat) (a1 : Nat) (a2 : Nat) (z0 : Nat) (o_from : Int64) (o_to : Int64) (o_spots : Nat → Int64) (o_memo : Nat → Int64) (o_board_size : Int32) (o_board_cells : Int32) (o_board_all : Int64) (o_board_upper : Int64) (o_board_lower : Int64) (o_board_left : Int64) (o_board_right : Int64) (p1 : Int64) (p2 : Int64) (p3 : Int32) (p4 : Int32) (p5 : Int32) (d9 : Nat) (oc : Int64 → Int64 → (Nat → Int64) → (Nat → Int64) → Int32 → Int32 → Int64 → Int64 → Int64 → Int64 → Int64 → Int32 → Int32 → Int32 → Option (Int32 × (Nat → Int64))) (hoc : ∀ (sz : Nat) (a0 : Nat) (a1 : Nat) (a2 : Nat) (z0 : Nat) (o_from : Int64) (o_to : Int64) (o_spots : Nat → Int64) (o_memo : Nat → Int64) (o_board_size : Int32) (o_board_cells : Int32) (o_board_all : Int64) (o_board_upper : Int64) (o_board_lower : Int64) (o_board_left : Int64) (o_board_right : Int64) (p1 : Int64) (p2 : Int64) (p3 : Int32) (p4 : Int32) (p5 : Int32) (o : Int32 × (Nat → Int64)), oc o_from o_to o_spots o_memo o_board_size o_board_cells o_board_all o_board_left o_board_right p1 p2 p3 p4 p5 = some o → Met l yX1_outcome (wl yX1_outcome cX1_outcome 9 (some .int)) (R_X1_outcome d9) (PWX [.ref a0, .long p1, .long p2, .int p3, .int p4, .int p5] D C tp sz (wX1 C a0 a1 a2 z0 o_from o_to o_spots o_memo) [cX0 z0 o_board_size o_board_cells o_board_all o_board_upper o_board_lower o_board_left o_board_right]) (QWi D o.1 (wX1 C a0 a1 a2 z0 o_from o_to o_spots o.2) (va_A (wX1 C a0 a1 a2 z0 o_from o_to o_spots o_memo) sz)) 0 0 (va_A (wX1 C a0 a1 a2 z0 o_from o_to o_spots o_memo) sz)) (o : Int32 × (Nat → Int64)) (hf : m_X1_outcomeB o_from o_to o_spots o_memo o_board_size o_board_cells o_board_all o_board_left o_board_right p1 p2 p3 p4 p5 oc = some o) : Met l yX1_outcome (wl yX1_outcome cX1_outcome 9 (some .int)) (R_X1_outcomeB d9) (PWX [.ref a0, .long p1, .long p2, .int p3, .int p4, .int p5] D C tp sz (wX1 C a0 a1 a2 z0 o_from o_to o_spots o_memo) [cX0 z0 o_board_size o_board_cells o_board_all o_board_upper o_board_lower o_board_left o_board_right]) (QWi D o.1 (wX1 C a0 a1 a2 z0 o_from o_to o_spots o.2) (va_A (wX1 C a0 a1 a2 z0 o_from o_to o_spots o_memo) sz)) 0 0 (va_A (wX1 C a0 a1 a2 z0 o_from o_to o_spots o_memo) sz) := by
  refine Met_ofC (by decide) ?_
  intro p e s m args below meth c hc hv
  obtain ⟨rfl, hsz, hP, hK, hD0, hO, hN0, hT0⟩ := hv
  subst hsz
  have hT : Xt tp (va_A (wX1 C a0 a1 a2 z0 o_from o_to o_spots o_memo) s.heap.size) s s.heap := hT0
  have hD := hD0.self (sz := s.heap.size)
  have hN : ∀ q ∈ [cX0 z0 o_board_size o_board_cells o_board_all o_board_upper o_board_lower o_board_left o_board_right], ¬ va_A (wX1 C a0 a1 a2 z0 o_from o_to o_spots o_memo) s.heap.size q.1 := hN0
  generalize hAe : va_A (wX1 C a0 a1 a2 z0 o_from o_to o_spots o_memo) s.heap.size = A at hD hN hT ⊢
  have hA : ∀ q : Nat, s.heap.size ≤ q → A q := fun q h => by rw [← hAe]; exact Or.inr h
  have hS : va_S A s.heap s.heap [] := va_S.rf
  have hx := hc.1
  have hb := hc.2.1
  have hown := hc.2.2.2.2.1
  have hts := hc.2.2.2.2.2.1
  refine en_F rfl (fun ls hl => ?_)
  have hl : lv_has ls 9 [(0, .ref a0), (1, .long p1), (3, .long p2), (5, .int p3), (6, .int p4), (7, .int p5)] := hl
  refine lv_aload_n hx hb dX1_outcome_0 rfl (lv_at hl 0 rfl) ?_
  refine lv_iload hx hb dX1_outcome_1 (lv_at hl 4 rfl) ?_
  obtain ⟨u1, hu1, hf⟩ := bind_some hf
  refine rcVi (As := [.int p4]) (rest := []) hc k_X1_33 (c_X1_recall l D C a0 a2 z0 o_from o_to a1 o_memo p4  _ hu1) ⟨rfl, rfl, (by show 0 + 1 ≤ 2 * (d9 + 1) + 10; omega), (by show 8 + (3 + 11) + (0) ≤ 100 * (d9 + 1) + 500; omega)⟩ ((hP.app (ro_S hO hN hS)).sub [0, 2] rfl) hK (q0 := 0) rfl rfl rfl hl rfl rfl (Nat.le_of_ble_eq_true rfl) ⟨Nat.zero_le _, Nat.zero_le _⟩ dX1_outcome_3 ?_
  refine lv_iconst (v := (1 : Int32)) hx hb dX1_outcome_6 (by decide) ?_
  refine lv_isub hx hb dX1_outcome_7 ?_
  refine lv_istore (lv' := [(8, .int (u1 - (1 : Int32))), (0, .ref a0), (1, .long p1), (3, .long p2), (5, .int p3), (6, .int p4), (7, .int p5)]) hx hb dX1_outcome_8 hl (by decide) rfl (fun ls hl => ?_)
  refine lv_iload hx hb dX1_outcome_10 (lv_at hl 0 rfl) ?_
  refine lv_if_lt (tgt := 18) hx hb dX1_outcome_12 (by decide) (fun c2 => ?_) (fun c2 => ?_)
  · have hf := if_t hf c2
    refine lv_iload hx hb dX1_outcome_18 (lv_at hl 6 rfl) ?_
    refine lv_if_eq (tgt := 28) hx hb dX1_outcome_20 (by decide) (fun c3 => ?_) (fun c3 => ?_)
    · have hf := if_t hf c3
      exact w_X1_outcomeB_c28 hc hK hA hO hN hT hoc  o_memo hf _ _ hP hD hS ls (lv_sub hl [1, 2, 3, 4, 5, 6] rfl)
    · have hf := if_f hf c3
      refine lv_iload hx hb dX1_outcome_23 (lv_at hl 4 rfl) ?_
      refine lv_if_ne (tgt := 53) hx hb dX1_outcome_25 (by decide) (fun c12 => ?_) (fun c12 => ?_)
      · have hf := if_f hf c12
        exact w_X1_outcomeB_c53 hc hK hA hO hN hT hoc  o_memo hf _ _ hP hD hS ls (lv_sub hl [1, 2, 3, 4, 5, 6] rfl)
      · have hf := if_t hf c12
        exact w_X1_outcomeB_c28 hc hK hA hO hN hT hoc  o_memo hf _ _ hP hD hS ls (lv_sub hl [1, 2, 3, 4, 5, 6] rfl)
  · have hf := if_f hf c2
    refine lv_iload hx hb dX1_outcome_15 (lv_at hl 0 rfl) ?_
    have hf := Option.some.inj hf
    subst hf
    exact rWi hc rfl hP hD hS dX1_outcome_17
def m_X1_outcome : Nat → Int64 → Int64 → (Nat → Int64) → (Nat → Int64) → Int32 → Int32 → Int64 → Int64 → Int64 → Int64 → Int64 → Int32 → Int32 → Int32 → Option (Int32 × (Nat → Int64))
  | 0, _, _, _, _, _, _, _, _, _, _, _, _, _, _ => none
  | d9 + 1, o_from, o_to, o_spots, o_memo, o_board_size, o_board_cells, o_board_all, o_board_left, o_board_right, p1, p2, p3, p4, p5 => m_X1_outcomeB o_from o_to o_spots o_memo o_board_size o_board_cells o_board_all o_board_left o_board_right p1 p2 p3 p4 p5 (m_X1_outcome d9)
theorem c_X1_outcome (l : Launch) (D : va_G) (C : Nat → ClassId) (tp : Nat) : ∀ (d9 : Nat) (sz : Nat) (a0 : Nat) (a1 : Nat) (a2 : Nat) (z0 : Nat) (o_from : Int64) (o_to : Int64) (o_spots : Nat → Int64) (o_memo : Nat → Int64) (o_board_size : Int32) (o_board_cells : Int32) (o_board_all : Int64) (o_board_upper : Int64) (o_board_lower : Int64) (o_board_left : Int64) (o_board_right : Int64) (p1 : Int64) (p2 : Int64) (p3 : Int32) (p4 : Int32) (p5 : Int32) (o : Int32 × (Nat → Int64)), m_X1_outcome d9 o_from o_to o_spots o_memo o_board_size o_board_cells o_board_all o_board_left o_board_right p1 p2 p3 p4 p5 = some o → Met l yX1_outcome (wl yX1_outcome cX1_outcome 9 (some .int)) (R_X1_outcome d9) (PWX [.ref a0, .long p1, .long p2, .int p3, .int p4, .int p5] D C tp sz (wX1 C a0 a1 a2 z0 o_from o_to o_spots o_memo) [cX0 z0 o_board_size o_board_cells o_board_all o_board_upper o_board_lower o_board_left o_board_right]) (QWi D o.1 (wX1 C a0 a1 a2 z0 o_from o_to o_spots o.2) (va_A (wX1 C a0 a1 a2 z0 o_from o_to o_spots o_memo) sz)) 0 0 (va_A (wX1 C a0 a1 a2 z0 o_from o_to o_spots o_memo) sz) := by
  intro d9
  induction d9 with
  | zero => intro sz a0 a1 a2 z0 o_from o_to o_spots o_memo o_board_size o_board_cells o_board_all o_board_upper o_board_lower o_board_left o_board_right p1 p2 p3 p4 p5 o hf; exact no_some hf
  | succ d9 ih =>
    intro sz a0 a1 a2 z0 o_from o_to o_spots o_memo o_board_size o_board_cells o_board_all o_board_upper o_board_lower o_board_left o_board_right p1 p2 p3 p4 p5 o hf
    exact c_X1_outcomeB l D C tp sz a0 a1 a2 z0 o_from o_to o_spots o_memo o_board_size o_board_cells o_board_all o_board_upper o_board_lower o_board_left o_board_right p1 p2 p3 p4 p5 d9 (m_X1_outcome d9) ih o hf
theorem c_X1_out11 (l : Launch) (D : va_G) (C : Nat → ClassId) (tp : Nat) (sz : Nat) (a0 : Nat) (a1 : Nat) (a2 : Nat) (z0 : Nat) (o_from : Int64) (o_to : Int64) (o_spots : Nat → Int64) (o_memo : Nat → Int64) (o_board_size : Int32) (o_board_cells : Int32) (o_board_all : Int64) (o_board_upper : Int64) (o_board_lower : Int64) (o_board_left : Int64) (o_board_right : Int64) (p1 : Int64) (p2 : Int64) (p3 : Int32) (p4 : Int32) (p5 : Int32) (o : Int32 × (Nat → Int64)) (hf : m_X1_outcome 11 o_from o_to o_spots o_memo o_board_size o_board_cells o_board_all o_board_left o_board_right p1 p2 p3 p4 p5 = some o) : Met l yX1_outcome (wl yX1_outcome cX1_outcome 9 (some .int)) (R_X1_outcome 11) (PWX [.ref a0, .long p1, .long p2, .int p3, .int p4, .int p5] D C tp sz (wX1 C a0 a1 a2 z0 o_from o_to o_spots o_memo) [cX0 z0 o_board_size o_board_cells o_board_all o_board_upper o_board_lower o_board_left o_board_right]) (QWi D o.1 (wX1 C a0 a1 a2 z0 o_from o_to o_spots o.2) (va_A (wX1 C a0 a1 a2 z0 o_from o_to o_spots o_memo) sz)) 0 0 (va_A (wX1 C a0 a1 a2 z0 o_from o_to o_spots o_memo) sz) := c_X1_outcome l D C tp 11 sz a0 a1 a2 z0 o_from o_to o_spots o_memo o_board_size o_board_cells o_board_all o_board_upper o_board_lower o_board_left o_board_right p1 p2 p3 p4 p5 o hf
abbrev R_X1_result : Room := { frames := 33, cells := 0, slots := 0, locals := 1628 }
def m_X1_result (o_from : Int64) (o_to : Int64) (o_spots : Nat → Int64) (o_memo : Nat → Int64) (o_board_size : Int32) (o_board_cells : Int32) (o_board_all : Int64) (o_board_left : Int64) (o_board_right : Int64) (p1 : Int64) (p2 : Int64) (p3 : Int32) : Option (Int32 × (Nat → Int64)) := ((m_X1_outcome 11 o_from o_to o_spots o_memo o_board_size o_board_cells o_board_all o_board_left o_board_right p1 p2 p3 (0 : Int32) (0 : Int32)).bind fun u1 => some (u1.1, u1.2))
set_option maxHeartbeats 4000000 in
set_option maxRecDepth 100000 in
theorem c_X1_result (l : Launch) (D : va_G) (C : Nat → ClassId) (tp : Nat) (sz : Nat) (a0 : Nat) (a1 : Nat) (a2 : Nat) (z0 : Nat) (o_from : Int64) (o_to : Int64) (o_spots : Nat → Int64) (o_memo : Nat → Int64) (o_board_size : Int32) (o_board_cells : Int32) (o_board_all : Int64) (o_board_upper : Int64) (o_board_lower : Int64) (o_board_left : Int64) (o_board_right : Int64) (p1 : Int64) (p2 : Int64) (p3 : Int32) (o : Int32 × (Nat → Int64)) (hf : m_X1_result o_from o_to o_spots o_memo o_board_size o_board_cells o_board_all o_board_left o_board_right p1 p2 p3 = some o) : Met l yX1_result (wl yX1_result cX1_result 6 (some .int)) R_X1_result (PWX [.ref a0, .long p1, .long p2, .int p3] D C tp sz (wX1 C a0 a1 a2 z0 o_from o_to o_spots o_memo) [cX0 z0 o_board_size o_board_cells o_board_all o_board_upper o_board_lower o_board_left o_board_right]) (QWi D o.1 (wX1 C a0 a1 a2 z0 o_from o_to o_spots o.2) (va_A (wX1 C a0 a1 a2 z0 o_from o_to o_spots o_memo) sz)) 0 0 (va_A (wX1 C a0 a1 a2 z0 o_from o_to o_spots o_memo) sz) := by
  refine Met_ofC (by decide) ?_
  intro p e s m args below meth c hc hv
  obtain ⟨rfl, hsz, hP, hK, hD0, hO, hN0, hT0⟩ := hv
  subst hsz
  have hT : Xt tp (va_A (wX1 C a0 a1 a2 z0 o_from o_to o_spots o_memo) s.heap.size) s s.heap := hT0
  have hD := hD0.self (sz := s.heap.size)
  have hN : ∀ q ∈ [cX0 z0 o_board_size o_board_cells o_board_all o_board_upper o_board_lower o_board_left o_board_right], ¬ va_A (wX1 C a0 a1 a2 z0 o_from o_to o_spots o_memo) s.heap.size q.1 := hN0
  generalize hAe : va_A (wX1 C a0 a1 a2 z0 o_from o_to o_spots o_memo) s.heap.size = A at hD hN hT ⊢
  have hA : ∀ q : Nat, s.heap.size ≤ q → A q := fun q h => by rw [← hAe]; exact Or.inr h
  have hS : va_S A s.heap s.heap [] := va_S.rf
  have hx := hc.1
  have hb := hc.2.1
  have hown := hc.2.2.2.2.1
  have hts := hc.2.2.2.2.2.1
  refine en_F rfl (fun ls hl => ?_)
  have hl : lv_has ls 6 [(0, .ref a0), (1, .long p1), (3, .long p2), (5, .int p3)] := hl
  refine lv_aload_n hx hb dX1_result_0 rfl (lv_at hl 0 rfl) ?_
  refine lv_lload_n hx hb dX1_result_1 rfl (lv_at hl 1 rfl) ?_
  refine lv_lload_n hx hb dX1_result_2 rfl (lv_at hl 2 rfl) ?_
  refine lv_iload hx hb dX1_result_3 (lv_at hl 3 rfl) ?_
  refine lv_iconst (v := (0 : Int32)) hx hb dX1_result_5 (by decide) ?_
  refine lv_iconst (v := (0 : Int32)) hx hb dX1_result_6 (by decide) ?_
  obtain ⟨u1, hu1, hf⟩ := bind_some hf
  refine wcViX (A := A) (wc := wX1 C a0 a1 a2 z0 o_from o_to o_spots o_memo) (w1 := wX1 C a0 a1 a2 z0 o_from o_to o_spots u1.2) (rc := [cX0 z0 o_board_size o_board_cells o_board_all o_board_upper o_board_lower o_board_left o_board_right]) (As := [.long p1, .long p2, .int p3, .int (0 : Int32), .int (0 : Int32)]) (rest := []) hc k_X1_29 (c_X1_out11 l D C tp _ a0 a1 a2 z0 o_from o_to o_spots o_memo o_board_size o_board_cells o_board_all o_board_upper o_board_lower o_board_left o_board_right p1 p2 p3 (0 : Int32) (0 : Int32)  _ hu1) ⟨rfl, rfl, Nat.le_of_ble_eq_true rfl, Nat.le_of_ble_eq_true rfl⟩ hP hD hS hA hK [0, 1, 2] [] rfl rfl rfl rfl (by decide) ((hP.app (ro_S hO hN hS)).sub [3] rfl) (Ap_cons (fun h9 => hN _ (List.mem_of_getElem? (i := 0) rfl) (va_free (wc := wX1 C a0 a1 a2 z0 o_from o_to o_spots o_memo) hD hS hA [0, 1, 2] rfl _ h9)) Ap_nil) hT (q0 := 0) rfl rfl rfl hl rfl rfl (Nat.le_of_ble_eq_true rfl) ⟨Nat.zero_le _, Nat.zero_le _⟩ dX1_result_7 (fun H locs hP hD hS => ?_)
  have hP : va_P D vwCl (wX1 C a0 a1 a2 z0 o_from o_to o_spots u1.2) H := hP.sub [0, 1, 2] rfl
  have hD : va_D A (wX1 C a0 a1 a2 z0 o_from o_to o_spots u1.2) := hD.sub [0, 1, 2] rfl rfl
  have hf := Option.some.inj hf
  subst hf
  exact rWi hc rfl hP hD hS dX1_result_10
abbrev R_X1_winningSpots : Room := { frames := 34, cells := 0, slots := 0, locals := 1653 }
def m_X1_winningSpots_c129  (k35 : Int64 → Int32 → Int32 → (Nat → Int64) → Option (Int64 × (Nat → Int64))) (v6 : Int64) (v8 : Int32) (v9 : Int32) (o_memo : Nat → Int64) : Option (Int64 × (Nat → Int64)) := (k35 v6 v8 (v9 + (1 : Int32)) o_memo)
set_option maxHeartbeats 4000000 in
set_option maxRecDepth 100000 in
theorem w_X1_winningSpots_c129 {p : Program} {l : Launch} {e : Env} {s : State} {m : MethodId} {args : Array Value} {below : List Frame} {meth : Method} {c : Code} {D : va_G} {C : Nat → ClassId} {A : Nat → Prop} {tp : Nat} {a0 : Nat} {a1 : Nat} {a2 : Nat} {z0 : Nat} {o_from : Int64} {o_to : Int64} {o_spots : Nat → Int64} {o_board_size : Int32} {o_board_cells : Int32} {o_board_all : Int64} {o_board_upper : Int64} {o_board_lower : Int64} {o_board_left : Int64} {o_board_right : Int64} {p1 : Int64} {p2 : Int64} {p3 : Int32} {o : Int64 × (Nat → Int64)} (hc : Cx p s m args meth c yX1_winningSpots cX1_winningSpots 13 (some .long)) (hK : va_K D vwCl (TY C) s) (hA : ∀ q : Nat, s.heap.size ≤ q → A q) (hO : va_P D vwCl [cX0 z0 o_board_size o_board_cells o_board_all o_board_upper o_board_lower o_board_left o_board_right] s.heap) (hN : ∀ q ∈ [cX0 z0 o_board_size o_board_cells o_board_all o_board_upper o_board_lower o_board_left o_board_right], ¬ A q.1) (hT : Xt tp A s s.heap) (k35 : Int64 → Int32 → Int32 → (Nat → Int64) → Option (Int64 × (Nat → Int64))) (hk35 : ∀ (v6 : Int64) (v8 : Int32) (v9 : Int32) (o_memo : Nat → Int64), k35 v6 v8 v9 o_memo = some o → ∀ (H : Heap) (locs : List Loc), va_P D vwCl (wX1 C a0 a1 a2 z0 o_from o_to o_spots o_memo) H → va_D A (wX1 C a0 a1 a2 z0 o_from o_to o_spots o_memo) → va_S A s.heap H locs → ∀ (ls : Array Slot), lv_has ls 13 [(0, .ref a0), (1, .long p1), (3, .long p2), (5, .int p3), (6, .long v6), (8, .int v8), (9, .int v9)] → W p l e R_X1_winningSpots s m args below meth c H locs 0 0 (MQ below (QWl D o.1 (wX1 C a0 a1 a2 z0 o_from o_to o_spots o.2) A) args s 0 0 A) (F0 m 35 ls [])) : ∀ (v6 : Int64) (v8 : Int32) (v9 : Int32) (o_memo : Nat → Int64), m_X1_winningSpots_c129  k35 v6 v8 v9 o_memo = some o → ∀ (H : Heap) (locs : List Loc), va_P D vwCl (wX1 C a0 a1 a2 z0 o_from o_to o_spots o_memo) H → va_D A (wX1 C a0 a1 a2 z0 o_from o_to o_spots o_memo) → va_S A s.heap H locs → ∀ (ls : Array Slot), lv_has ls 13 [(0, .ref a0), (1, .long p1), (3, .long p2), (5, .int p3), (6, .long v6), (8, .int v8), (9, .int v9)] → W p l e R_X1_winningSpots s m args below meth c H locs 0 0 (MQ below (QWl D o.1 (wX1 C a0 a1 a2 z0 o_from o_to o_spots o.2) A) args s 0 0 A) (F0 m 129 ls []) := by
  have hx := hc.1
  have hb := hc.2.1
  have hown := hc.2.2.2.2.1
  have hts := hc.2.2.2.2.2.1
  intro v6 v8 v9 o_memo hf H locs hP hD hS ls hl
  refine lv_iinc (v := (v9 + (1 : Int32))) (lv' := [(9, .int (v9 + (1 : Int32))), (0, .ref a0), (1, .long p1), (3, .long p2), (5, .int p3), (6, .long v6), (8, .int v8)]) hx hb dX1_winningSpots_129 hl (k := 6) rfl rfl (by decide) rfl (fun ls hl => ?_)
  refine lv_goto (tgt := 35) hx hb dX1_winningSpots_132 (by decide) ?_
  exact hk35 v6 v8 (v9 + (1 : Int32)) o_memo hf _ _ hP hD hS ls (lv_sub hl [1, 2, 3, 4, 5, 6, 0] rfl)
def m_X1_winningSpots_c97 (o_from : Int64) (o_to : Int64) (o_spots : Nat → Int64) (o_board_size : Int32) (o_board_cells : Int32) (o_board_all : Int64) (o_board_left : Int64) (o_board_right : Int64) (p3 : Int32) (k35 : Int64 → Int32 → Int32 → (Nat → Int64) → Option (Int64 × (Nat → Int64))) (v6 : Int64) (v8 : Int32) (v9 : Int32) (v10 : Int64) (t0 : Int32) (t1 : Int64) (t2 : Int64) (o_memo : Nat → Int64) : Option (Int64 × (Nat → Int64)) := (if okI v9 9 = true then ((m_X1_outcome 11 o_from o_to o_spots o_memo o_board_size o_board_cells o_board_all o_board_left o_board_right t2 t1 t0 (v8 * (pw9 v9.toNatClampNeg)) (1 : Int32)).bind fun u11 => (if (m_X1_connects u11.1) = p3 then (m_X1_winningSpots_c129 k35 (v6 ||| v10) v8 v9 u11.2) else (m_X1_winningSpots_c129 k35 v6 v8 v9 u11.2))) else none)
set_option maxHeartbeats 4000000 in
set_option maxRecDepth 100000 in
theorem w_X1_winningSpots_c97 {p : Program} {l : Launch} {e : Env} {s : State} {m : MethodId} {args : Array Value} {below : List Frame} {meth : Method} {c : Code} {D : va_G} {C : Nat → ClassId} {A : Nat → Prop} {tp : Nat} {a0 : Nat} {a1 : Nat} {a2 : Nat} {z0 : Nat} {o_from : Int64} {o_to : Int64} {o_spots : Nat → Int64} {o_board_size : Int32} {o_board_cells : Int32} {o_board_all : Int64} {o_board_upper : Int64} {o_board_lower : Int64} {o_board_left : Int64} {o_board_right : Int64} {p1 : Int64} {p2 : Int64} {p3 : Int32} {o : Int64 × (Nat → Int64)} (hc : Cx p s m args meth c yX1_winningSpots cX1_winningSpots 13 (some .long)) (hK : va_K D vwCl (TY C) s) (hA : ∀ q : Nat, s.heap.size ≤ q → A q) (hO : va_P D vwCl [cX0 z0 o_board_size o_board_cells o_board_all o_board_upper o_board_lower o_board_left o_board_right] s.heap) (hN : ∀ q ∈ [cX0 z0 o_board_size o_board_cells o_board_all o_board_upper o_board_lower o_board_left o_board_right], ¬ A q.1) (hT : Xt tp A s s.heap) (k35 : Int64 → Int32 → Int32 → (Nat → Int64) → Option (Int64 × (Nat → Int64))) (hk35 : ∀ (v6 : Int64) (v8 : Int32) (v9 : Int32) (o_memo : Nat → Int64), k35 v6 v8 v9 o_memo = some o → ∀ (H : Heap) (locs : List Loc), va_P D vwCl (wX1 C a0 a1 a2 z0 o_from o_to o_spots o_memo) H → va_D A (wX1 C a0 a1 a2 z0 o_from o_to o_spots o_memo) → va_S A s.heap H locs → ∀ (ls : Array Slot), lv_has ls 13 [(0, .ref a0), (1, .long p1), (3, .long p2), (5, .int p3), (6, .long v6), (8, .int v8), (9, .int v9)] → W p l e R_X1_winningSpots s m args below meth c H locs 0 0 (MQ below (QWl D o.1 (wX1 C a0 a1 a2 z0 o_from o_to o_spots o.2) A) args s 0 0 A) (F0 m 35 ls [])) : ∀ (v6 : Int64) (v8 : Int32) (v9 : Int32) (v10 : Int64) (t0 : Int32) (t1 : Int64) (t2 : Int64) (o_memo : Nat → Int64), m_X1_winningSpots_c97 o_from o_to o_spots o_board_size o_board_cells o_board_all o_board_left o_board_right p3 k35 v6 v8 v9 v10 t0 t1 t2 o_memo = some o → ∀ (H : Heap) (locs : List Loc), va_P D vwCl (wX1 C a0 a1 a2 z0 o_from o_to o_spots o_memo) H → va_D A (wX1 C a0 a1 a2 z0 o_from o_to o_spots o_memo) → va_S A s.heap H locs → ∀ (ls : Array Slot), lv_has ls 13 [(0, .ref a0), (1, .long p1), (3, .long p2), (5, .int p3), (6, .long v6), (8, .int v8), (9, .int v9), (10, .long v10)] → W p l e R_X1_winningSpots s m args below meth c H locs 0 0 (MQ below (QWl D o.1 (wX1 C a0 a1 a2 z0 o_from o_to o_spots o.2) A) args s 0 0 A) (F0 m 97 ls [.int t0, .long t1, .long t2, .ref a0]) := by
  have hx := hc.1
  have hb := hc.2.1
  have hown := hc.2.2.2.2.1
  have hts := hc.2.2.2.2.2.1
  intro v6 v8 v9 v10 t0 t1 t2 o_memo hf H locs hP hD hS ls hl
  refine lv_iload hx hb dX1_winningSpots_97 (lv_at hl 5 rfl) ?_
  refine va_gets hx hb hT.1 hS hown (hts _ q_473) (fun _ h9 => h9) dX1_winningSpots_99 ?_
  refine lv_iload hx hb dX1_winningSpots_102 (lv_at hl 6 rfl) ?_
  obtain ⟨h10, hf⟩ := ok_t hf
  refine va_ti hx hb hT.2.1 hS (okI_in h10) (v := .int (pw9 v9.toNatClampNeg)) rfl dX1_winningSpots_104 ?_
  refine lv_imul hx hb dX1_winningSpots_105 ?_
  refine lv_iconst (v := (1 : Int32)) hx hb dX1_winningSpots_106 (by decide) ?_
  obtain ⟨u11, hu11, hf⟩ := bind_some hf
  refine wcViX (A := A) (wc := wX1 C a0 a1 a2 z0 o_from o_to o_spots o_memo) (w1 := wX1 C a0 a1 a2 z0 o_from o_to o_spots u11.2) (rc := [cX0 z0 o_board_size o_board_cells o_board_all o_board_upper o_board_lower o_board_left o_board_right]) (As := [.long t2, .long t1, .int t0, .int (v8 * (pw9 v9.toNatClampNeg)), .int (1 : Int32)]) (rest := []) hc k_X1_29 (c_X1_out11 l D C tp _ a0 a1 a2 z0 o_from o_to o_spots o_memo o_board_size o_board_cells o_board_all o_board_upper o_board_lower o_board_left o_board_right t2 t1 t0 (v8 * (pw9 v9.toNatClampNeg)) (1 : Int32)  _ hu11) ⟨rfl, rfl, Nat.le_of_ble_eq_true rfl, Nat.le_of_ble_eq_true rfl⟩ hP hD hS hA hK [0, 1, 2] [] rfl rfl rfl rfl (by decide) ((hP.app (ro_S hO hN hS)).sub [3] rfl) (Ap_cons (fun h9 => hN _ (List.mem_of_getElem? (i := 0) rfl) (va_free (wc := wX1 C a0 a1 a2 z0 o_from o_to o_spots o_memo) hD hS hA [0, 1, 2] rfl _ h9)) Ap_nil) hT (q0 := 0) rfl rfl rfl hl rfl rfl (Nat.le_of_ble_eq_true rfl) ⟨Nat.zero_le _, Nat.zero_le _⟩ dX1_winningSpots_107 (fun H locs hP hD hS => ?_)
  have hP : va_P D vwCl (wX1 C a0 a1 a2 z0 o_from o_to o_spots u11.2) H := hP.sub [0, 1, 2] rfl
  have hD : va_D A (wX1 C a0 a1 a2 z0 o_from o_to o_spots u11.2) := hD.sub [0, 1, 2] rfl rfl
  refine lv_istore (lv' := [(12, .int u11.1), (0, .ref a0), (1, .long p1), (3, .long p2), (5, .int p3), (6, .long v6), (8, .int v8), (9, .int v9), (10, .long v10)]) hx hb dX1_winningSpots_110 hl (by decide) rfl (fun ls hl => ?_)
  refine lv_iload hx hb dX1_winningSpots_112 (lv_at hl 0 rfl) ?_
  refine rcSi (As := [.int u11.1]) (rest := []) hc k_X1_60 (c_X1_connects l D C u11.1  _ rfl) ⟨rfl, rfl, Nat.le_of_ble_eq_true rfl, Nat.le_of_ble_eq_true rfl⟩ (hP.sub [] rfl) hK hl rfl rfl (Nat.le_of_ble_eq_true rfl) ⟨Nat.zero_le _, Nat.zero_le _⟩ dX1_winningSpots_114 ?_
  refine lv_iload hx hb dX1_winningSpots_117 (lv_at hl 4 rfl) ?_
  refine lv_icmp_ne (tgt := 129) hx hb dX1_winningSpots_119 (by decide) (fun c12 => ?_) (fun c12 => ?_)
  · have hf := if_f hf c12
    exact w_X1_winningSpots_c129 hc hK hA hO hN hT k35 hk35 v6 v8 v9 u11.2 hf _ _ hP hD hS ls (lv_sub hl [1, 2, 3, 4, 5, 6, 7] rfl)
  · have hf := if_t hf c12
    refine lv_lload hx hb dX1_winningSpots_122 (lv_at hl 5 rfl) ?_
    refine lv_lload hx hb dX1_winningSpots_124 (lv_at hl 8 rfl) ?_
    refine lv_lor hx hb dX1_winningSpots_126 ?_
    refine lv_lstore (lv' := [(6, .long (v6 ||| v10)), (12, .int u11.1), (0, .ref a0), (1, .long p1), (3, .long p2), (5, .int p3), (8, .int v8), (9, .int v9), (10, .long v10)]) hx hb dX1_winningSpots_127 hl (by decide) rfl (fun ls hl => ?_)
    exact w_X1_winningSpots_c129 hc hK hA hO hN hT k35 hk35 (v6 ||| v10) v8 v9 u11.2 hf _ _ hP hD hS ls (lv_sub hl [2, 3, 4, 5, 0, 6, 7] rfl)
def m_X1_winningSpots_c79 (o_from : Int64) (o_to : Int64) (o_spots : Nat → Int64) (o_board_size : Int32) (o_board_cells : Int32) (o_board_all : Int64) (o_board_left : Int64) (o_board_right : Int64) (p2 : Int64) (p3 : Int32) (k35 : Int64 → Int32 → Int32 → (Nat → Int64) → Option (Int64 × (Nat → Int64))) (v6 : Int64) (v8 : Int32) (v9 : Int32) (v10 : Int64) (t0 : Int64) (o_memo : Nat → Int64) : Option (Int64 × (Nat → Int64)) := (if p3 = 0 then (m_X1_winningSpots_c97 o_from o_to o_spots o_board_size o_board_cells o_board_all o_board_left o_board_right p3 k35 v6 v8 v9 v10 (1 : Int32) (p2 &&& (v10 ^^^ (-1 : Int64))) t0 o_memo) else (m_X1_winningSpots_c97 o_from o_to o_spots o_board_size o_board_cells o_board_all o_board_left o_board_right p3 k35 v6 v8 v9 v10 (0 : Int32) (p2 &&& (v10 ^^^ (-1 : Int64))) t0 o_memo))
set_option maxHeartbeats 4000000 in
set_option maxRecDepth 100000 in
theorem w_X1_winningSpots_c79 {p : Program} {l : Launch} {e : Env} {s : State} {m : MethodId} {args : Array Value} {below : List Frame} {meth : Method} {c : Code} {D : va_G} {C : Nat → ClassId} {A : Nat → Prop} {tp : Nat} {a0 : Nat} {a1 : Nat} {a2 : Nat} {z0 : Nat} {o_from : Int64} {o_to : Int64} {o_spots : Nat → Int64} {o_board_size : Int32} {o_board_cells : Int32} {o_board_all : Int64} {o_board_upper : Int64} {o_board_lower : Int64} {o_board_left : Int64} {o_board_right : Int64} {p1 : Int64} {p2 : Int64} {p3 : Int32} {o : Int64 × (Nat → Int64)} (hc : Cx p s m args meth c yX1_winningSpots cX1_winningSpots 13 (some .long)) (hK : va_K D vwCl (TY C) s) (hA : ∀ q : Nat, s.heap.size ≤ q → A q) (hO : va_P D vwCl [cX0 z0 o_board_size o_board_cells o_board_all o_board_upper o_board_lower o_board_left o_board_right] s.heap) (hN : ∀ q ∈ [cX0 z0 o_board_size o_board_cells o_board_all o_board_upper o_board_lower o_board_left o_board_right], ¬ A q.1) (hT : Xt tp A s s.heap) (k35 : Int64 → Int32 → Int32 → (Nat → Int64) → Option (Int64 × (Nat → Int64))) (hk35 : ∀ (v6 : Int64) (v8 : Int32) (v9 : Int32) (o_memo : Nat → Int64), k35 v6 v8 v9 o_memo = some o → ∀ (H : Heap) (locs : List Loc), va_P D vwCl (wX1 C a0 a1 a2 z0 o_from o_to o_spots o_memo) H → va_D A (wX1 C a0 a1 a2 z0 o_from o_to o_spots o_memo) → va_S A s.heap H locs → ∀ (ls : Array Slot), lv_has ls 13 [(0, .ref a0), (1, .long p1), (3, .long p2), (5, .int p3), (6, .long v6), (8, .int v8), (9, .int v9)] → W p l e R_X1_winningSpots s m args below meth c H locs 0 0 (MQ below (QWl D o.1 (wX1 C a0 a1 a2 z0 o_from o_to o_spots o.2) A) args s 0 0 A) (F0 m 35 ls [])) : ∀ (v6 : Int64) (v8 : Int32) (v9 : Int32) (v10 : Int64) (t0 : Int64) (o_memo : Nat → Int64), m_X1_winningSpots_c79 o_from o_to o_spots o_board_size o_board_cells o_board_all o_board_left o_board_right p2 p3 k35 v6 v8 v9 v10 t0 o_memo = some o → ∀ (H : Heap) (locs : List Loc), va_P D vwCl (wX1 C a0 a1 a2 z0 o_from o_to o_spots o_memo) H → va_D A (wX1 C a0 a1 a2 z0 o_from o_to o_spots o_memo) → va_S A s.heap H locs → ∀ (ls : Array Slot), lv_has ls 13 [(0, .ref a0), (1, .long p1), (3, .long p2), (5, .int p3), (6, .long v6), (8, .int v8), (9, .int v9), (10, .long v10)] → W p l e R_X1_winningSpots s m args below meth c H locs 0 0 (MQ below (QWl D o.1 (wX1 C a0 a1 a2 z0 o_from o_to o_spots o.2) A) args s 0 0 A) (F0 m 79 ls [.long t0, .ref a0]) := by
  have hx := hc.1
  have hb := hc.2.1
  have hown := hc.2.2.2.2.1
  have hts := hc.2.2.2.2.2.1
  intro v6 v8 v9 v10 t0 o_memo hf H locs hP hD hS ls hl
  refine lv_lload_n hx hb dX1_winningSpots_79 rfl (lv_at hl 2 rfl) ?_
  refine lv_lload hx hb dX1_winningSpots_80 (lv_at hl 7 rfl) ?_
  refine lv_ldc2 (v := (-1 : Int64)) hx hb hown (hts _ q_472) dX1_winningSpots_82 ?_
  refine lv_lxor hx hb dX1_winningSpots_85 ?_
  refine lv_land hx hb dX1_winningSpots_86 ?_
  refine lv_iload hx hb dX1_winningSpots_87 (lv_at hl 3 rfl) ?_
  refine lv_if_ne (tgt := 96) hx hb dX1_winningSpots_89 (by decide) (fun c9 => ?_) (fun c9 => ?_)
  · have hf := if_f hf c9
    refine lv_iconst (v := (0 : Int32)) hx hb dX1_winningSpots_96 (by decide) ?_
    exact w_X1_winningSpots_c97 hc hK hA hO hN hT k35 hk35 v6 v8 v9 v10 (0 : Int32) (p2 &&& (v10 ^^^ (-1 : Int64))) t0 o_memo hf _ _ hP hD hS ls (lv_sub hl [0, 1, 2, 3, 4, 5, 6, 7] rfl)
  · have hf := if_t hf c9
    refine lv_iconst (v := (1 : Int32)) hx hb dX1_winningSpots_92 (by decide) ?_
    refine lv_goto (tgt := 97) hx hb dX1_winningSpots_93 (by decide) ?_
    exact w_X1_winningSpots_c97 hc hK hA hO hN hT k35 hk35 v6 v8 v9 v10 (1 : Int32) (p2 &&& (v10 ^^^ (-1 : Int64))) t0 o_memo hf _ _ hP hD hS ls (lv_sub hl [0, 1, 2, 3, 4, 5, 6, 7] rfl)
def m_X1_winningSpots_c35 (o_from : Int64) (o_to : Int64) (o_spots : Nat → Int64) (o_board_size : Int32) (o_board_cells : Int32) (o_board_all : Int64) (o_board_left : Int64) (o_board_right : Int64) (p1 : Int64) (p2 : Int64) (p3 : Int32)  : Nat → Int64 → Int32 → Int32 → (Nat → Int64) → Option (Int64 × (Nat → Int64))
  | 0, _, _, _, _ => none
  | n + 1, v6, v8, v9, o_memo => (if (9 : Int32) ≤ v9 then some (v6, o_memo) else (if okI v9 9 = true then (if (p2 &&& (o_spots v9.toNatClampNeg)) = (0 : Int64) then some (v6, o_memo) else (if okI v9 9 = true then (if p3 = 0 then (m_X1_winningSpots_c79 o_from o_to o_spots o_board_size o_board_cells o_board_all o_board_left o_board_right p2 p3 (m_X1_winningSpots_c35 o_from o_to o_spots o_board_size o_board_cells o_board_all o_board_left o_board_right p1 p2 p3  n) v6 v8 v9 (o_spots v9.toNatClampNeg) p1 o_memo) else (m_X1_winningSpots_c79 o_from o_to o_spots o_board_size o_board_cells o_board_all o_board_left o_board_right p2 p3 (m_X1_winningSpots_c35 o_from o_to o_spots o_board_size o_board_cells o_board_all o_board_left o_board_right p1 p2 p3  n) v6 v8 v9 (o_spots v9.toNatClampNeg) (p1 ||| (o_spots v9.toNatClampNeg)) o_memo)) else none)) else none))
set_option maxHeartbeats 4000000 in
set_option maxRecDepth 100000 in
theorem w_X1_winningSpots_c35 {p : Program} {l : Launch} {e : Env} {s : State} {m : MethodId} {args : Array Value} {below : List Frame} {meth : Method} {c : Code} {D : va_G} {C : Nat → ClassId} {A : Nat → Prop} {tp : Nat} {a0 : Nat} {a1 : Nat} {a2 : Nat} {z0 : Nat} {o_from : Int64} {o_to : Int64} {o_spots : Nat → Int64} {o_board_size : Int32} {o_board_cells : Int32} {o_board_all : Int64} {o_board_upper : Int64} {o_board_lower : Int64} {o_board_left : Int64} {o_board_right : Int64} {p1 : Int64} {p2 : Int64} {p3 : Int32} {o : Int64 × (Nat → Int64)} (hc : Cx p s m args meth c yX1_winningSpots cX1_winningSpots 13 (some .long)) (hK : va_K D vwCl (TY C) s) (hA : ∀ q : Nat, s.heap.size ≤ q → A q) (hO : va_P D vwCl [cX0 z0 o_board_size o_board_cells o_board_all o_board_upper o_board_lower o_board_left o_board_right] s.heap) (hN : ∀ q ∈ [cX0 z0 o_board_size o_board_cells o_board_all o_board_upper o_board_lower o_board_left o_board_right], ¬ A q.1) (hT : Xt tp A s s.heap) : ∀ (n : Nat), ∀ (v6 : Int64) (v8 : Int32) (v9 : Int32) (o_memo : Nat → Int64), m_X1_winningSpots_c35 o_from o_to o_spots o_board_size o_board_cells o_board_all o_board_left o_board_right p1 p2 p3  n v6 v8 v9 o_memo = some o → ∀ (H : Heap) (locs : List Loc), va_P D vwCl (wX1 C a0 a1 a2 z0 o_from o_to o_spots o_memo) H → va_D A (wX1 C a0 a1 a2 z0 o_from o_to o_spots o_memo) → va_S A s.heap H locs → ∀ (ls : Array Slot), lv_has ls 13 [(0, .ref a0), (1, .long p1), (3, .long p2), (5, .int p3), (6, .long v6), (8, .int v8), (9, .int v9)] → W p l e R_X1_winningSpots s m args below meth c H locs 0 0 (MQ below (QWl D o.1 (wX1 C a0 a1 a2 z0 o_from o_to o_spots o.2) A) args s 0 0 A) (F0 m 35 ls []) := by
  have hx := hc.1
  have hb := hc.2.1
  have hown := hc.2.2.2.2.1
  have hts := hc.2.2.2.2.2.1
  intro n
  induction n with
  | zero =>
    intro v6 v8 v9 o_memo hf
    exact no_some hf
  | succ n ih =>
    intro v6 v8 v9 o_memo hf H locs hP hD hS ls hl
    refine lv_iload hx hb dX1_winningSpots_35 (lv_at hl 6 rfl) ?_
    refine lv_bipush (v := (9 : Int32)) hx hb dX1_winningSpots_37 (by decide) ?_
    refine lv_icmp_ge (tgt := 135) hx hb dX1_winningSpots_39 (by decide) (fun c4 => ?_) (fun c4 => ?_)
    · have hf := if_t hf c4
      refine lv_lload hx hb dX1_winningSpots_135 (lv_at hl 4 rfl) ?_
      have hf := Option.some.inj hf
      subst hf
      exact rWl hc rfl hP hD hS dX1_winningSpots_137
    · have hf := if_f hf c4
      refine lv_lload_n hx hb dX1_winningSpots_42 rfl (lv_at hl 2 rfl) ?_
      refine lv_aload_n hx hb dX1_winningSpots_43 rfl (lv_at hl 0 rfl) ?_
      refine va_get (D := D) (ci := 1) (v := .ref a1) (C := RX1) (T := TX1) (N := 5) hx hb hts inX1 hown hK hP 0 rfl rfl 3 (by decide) (hts _ q_124) (fun _ h9 => h9) rfl dX1_winningSpots_44 ?_
      refine lv_iload hx hb dX1_winningSpots_47 (lv_at hl 6 rfl) ?_
      obtain ⟨h5, hf⟩ := ok_t hf
      refine va_lald hx hb hK hP 1 1 rfl rfl (okI_in h5) dX1_winningSpots_49 ?_
      refine lv_land hx hb dX1_winningSpots_50 ?_
      refine lv_lconst (v := (0 : Int64)) hx hb dX1_winningSpots_51 (by decide) ?_
      refine lc_eq (tgt := 135) hx hb dX1_winningSpots_52 dX1_winningSpots_53 (by decide) (fun c6 => ?_) (fun c6 => ?_)
      · have hf := if_t hf c6
        refine lv_lload hx hb dX1_winningSpots_135 (lv_at hl 4 rfl) ?_
        have hf := Option.some.inj hf
        subst hf
        exact rWl hc rfl hP hD hS dX1_winningSpots_137
      · have hf := if_f hf c6
        refine lv_aload_n hx hb dX1_winningSpots_56 rfl (lv_at hl 0 rfl) ?_
        refine va_get (D := D) (ci := 1) (v := .ref a1) (C := RX1) (T := TX1) (N := 5) hx hb hts inX1 hown hK hP 0 rfl rfl 3 (by decide) (hts _ q_124) (fun _ h9 => h9) rfl dX1_winningSpots_57 ?_
        refine lv_iload hx hb dX1_winningSpots_60 (lv_at hl 6 rfl) ?_
        obtain ⟨h7, hf⟩ := ok_t hf
        refine va_lald hx hb hK hP 1 1 rfl rfl (okI_in h7) dX1_winningSpots_62 ?_
        refine lv_lstore (lv' := [(10, .long (o_spots v9.toNatClampNeg)), (0, .ref a0), (1, .long p1), (3, .long p2), (5, .int p3), (6, .long v6), (8, .int v8), (9, .int v9)]) hx hb dX1_winningSpots_63 hl (by decide) rfl (fun ls hl => ?_)
        refine lv_aload_n hx hb dX1_winningSpots_65 rfl (lv_at hl 1 rfl) ?_
        refine lv_iload hx hb dX1_winningSpots_66 (lv_at hl 4 rfl) ?_
        refine lv_if_eq (tgt := 78) hx hb dX1_winningSpots_68 (by decide) (fun c8 => ?_) (fun c8 => ?_)
        · have hf := if_t hf c8
          refine lv_lload_n hx hb dX1_winningSpots_78 rfl (lv_at hl 2 rfl) ?_
          exact w_X1_winningSpots_c79 hc hK hA hO hN hT (m_X1_winningSpots_c35 o_from o_to o_spots o_board_size o_board_cells o_board_all o_board_left o_board_right p1 p2 p3  n) ih v6 v8 v9 (o_spots v9.toNatClampNeg) p1 o_memo hf _ _ hP hD hS ls (lv_sub hl [1, 2, 3, 4, 5, 6, 7, 0] rfl)
        · have hf := if_f hf c8
          refine lv_lload_n hx hb dX1_winningSpots_71 rfl (lv_at hl 2 rfl) ?_
          refine lv_lload hx hb dX1_winningSpots_72 (lv_at hl 0 rfl) ?_
          refine lv_lor hx hb dX1_winningSpots_74 ?_
          refine lv_goto (tgt := 79) hx hb dX1_winningSpots_75 (by decide) ?_
          exact w_X1_winningSpots_c79 hc hK hA hO hN hT (m_X1_winningSpots_c35 o_from o_to o_spots o_board_size o_board_cells o_board_all o_board_left o_board_right p1 p2 p3  n) ih v6 v8 v9 (o_spots v9.toNatClampNeg) (p1 ||| (o_spots v9.toNatClampNeg)) o_memo hf _ _ hP hD hS ls (lv_sub hl [1, 2, 3, 4, 5, 6, 7, 0] rfl)
def m_X1_winningSpots_c30 (o_from : Int64) (o_to : Int64) (o_spots : Nat → Int64) (o_board_size : Int32) (o_board_cells : Int32) (o_board_all : Int64) (o_board_left : Int64) (o_board_right : Int64) (p1 : Int64) (p2 : Int64) (p3 : Int32)  (v6 : Int64) (t0 : Int32) (o_memo : Nat → Int64) : Option (Int64 × (Nat → Int64)) := (m_X1_winningSpots_c35 o_from o_to o_spots o_board_size o_board_cells o_board_all o_board_left o_board_right p1 p2 p3 FU v6 t0 (0 : Int32) o_memo)
set_option maxHeartbeats 4000000 in
set_option maxRecDepth 100000 in
theorem w_X1_winningSpots_c30 {p : Program} {l : Launch} {e : Env} {s : State} {m : MethodId} {args : Array Value} {below : List Frame} {meth : Method} {c : Code} {D : va_G} {C : Nat → ClassId} {A : Nat → Prop} {tp : Nat} {a0 : Nat} {a1 : Nat} {a2 : Nat} {z0 : Nat} {o_from : Int64} {o_to : Int64} {o_spots : Nat → Int64} {o_board_size : Int32} {o_board_cells : Int32} {o_board_all : Int64} {o_board_upper : Int64} {o_board_lower : Int64} {o_board_left : Int64} {o_board_right : Int64} {p1 : Int64} {p2 : Int64} {p3 : Int32} {o : Int64 × (Nat → Int64)} (hc : Cx p s m args meth c yX1_winningSpots cX1_winningSpots 13 (some .long)) (hK : va_K D vwCl (TY C) s) (hA : ∀ q : Nat, s.heap.size ≤ q → A q) (hO : va_P D vwCl [cX0 z0 o_board_size o_board_cells o_board_all o_board_upper o_board_lower o_board_left o_board_right] s.heap) (hN : ∀ q ∈ [cX0 z0 o_board_size o_board_cells o_board_all o_board_upper o_board_lower o_board_left o_board_right], ¬ A q.1) (hT : Xt tp A s s.heap) : ∀ (v6 : Int64) (t0 : Int32) (o_memo : Nat → Int64), m_X1_winningSpots_c30 o_from o_to o_spots o_board_size o_board_cells o_board_all o_board_left o_board_right p1 p2 p3  v6 t0 o_memo = some o → ∀ (H : Heap) (locs : List Loc), va_P D vwCl (wX1 C a0 a1 a2 z0 o_from o_to o_spots o_memo) H → va_D A (wX1 C a0 a1 a2 z0 o_from o_to o_spots o_memo) → va_S A s.heap H locs → ∀ (ls : Array Slot), lv_has ls 13 [(0, .ref a0), (1, .long p1), (3, .long p2), (5, .int p3), (6, .long v6)] → W p l e R_X1_winningSpots s m args below meth c H locs 0 0 (MQ below (QWl D o.1 (wX1 C a0 a1 a2 z0 o_from o_to o_spots o.2) A) args s 0 0 A) (F0 m 30 ls [.int t0]) := by
  have hx := hc.1
  have hb := hc.2.1
  have hown := hc.2.2.2.2.1
  have hts := hc.2.2.2.2.2.1
  intro v6 t0 o_memo hf H locs hP hD hS ls hl
  refine lv_istore (lv' := [(8, .int t0), (0, .ref a0), (1, .long p1), (3, .long p2), (5, .int p3), (6, .long v6)]) hx hb dX1_winningSpots_30 hl (by decide) rfl (fun ls hl => ?_)
  refine lv_iconst (v := (0 : Int32)) hx hb dX1_winningSpots_32 (by decide) ?_
  refine lv_istore (lv' := [(9, .int (0 : Int32)), (8, .int t0), (0, .ref a0), (1, .long p1), (3, .long p2), (5, .int p3), (6, .long v6)]) hx hb dX1_winningSpots_33 hl (by decide) rfl (fun ls hl => ?_)
  exact w_X1_winningSpots_c35 hc hK hA hO hN hT  FU v6 t0 (0 : Int32) o_memo hf _ _ hP hD hS ls (lv_sub hl [2, 3, 4, 5, 6, 1, 0] rfl)
def m_X1_winningSpots (o_from : Int64) (o_to : Int64) (o_spots : Nat → Int64) (o_memo : Nat → Int64) (o_board_size : Int32) (o_board_cells : Int32) (o_board_all : Int64) (o_board_left : Int64) (o_board_right : Int64) (p1 : Int64) (p2 : Int64) (p3 : Int32) : Option (Int64 × (Nat → Int64)) := ((m_X1_result o_from o_to o_spots o_memo o_board_size o_board_cells o_board_all o_board_left o_board_right p1 p2 p3).bind fun u1 => (if (m_X1_length u1.1) = 0 then some ((0 : Int64), u1.2) else (if p3 = 0 then (m_X1_winningSpots_c30 o_from o_to o_spots o_board_size o_board_cells o_board_all o_board_left o_board_right p1 p2 p3 (0 : Int64) (2 : Int32) u1.2) else (m_X1_winningSpots_c30 o_from o_to o_spots o_board_size o_board_cells o_board_all o_board_left o_board_right p1 p2 p3 (0 : Int64) (1 : Int32) u1.2))))
set_option maxHeartbeats 4000000 in
set_option maxRecDepth 100000 in
theorem c_X1_winningSpots (l : Launch) (D : va_G) (C : Nat → ClassId) (tp : Nat) (sz : Nat) (a0 : Nat) (a1 : Nat) (a2 : Nat) (z0 : Nat) (o_from : Int64) (o_to : Int64) (o_spots : Nat → Int64) (o_memo : Nat → Int64) (o_board_size : Int32) (o_board_cells : Int32) (o_board_all : Int64) (o_board_upper : Int64) (o_board_lower : Int64) (o_board_left : Int64) (o_board_right : Int64) (p1 : Int64) (p2 : Int64) (p3 : Int32) (o : Int64 × (Nat → Int64)) (hf : m_X1_winningSpots o_from o_to o_spots o_memo o_board_size o_board_cells o_board_all o_board_left o_board_right p1 p2 p3 = some o) : Met l yX1_winningSpots (wl yX1_winningSpots cX1_winningSpots 13 (some .long)) R_X1_winningSpots (PWX [.ref a0, .long p1, .long p2, .int p3] D C tp sz (wX1 C a0 a1 a2 z0 o_from o_to o_spots o_memo) [cX0 z0 o_board_size o_board_cells o_board_all o_board_upper o_board_lower o_board_left o_board_right]) (QWl D o.1 (wX1 C a0 a1 a2 z0 o_from o_to o_spots o.2) (va_A (wX1 C a0 a1 a2 z0 o_from o_to o_spots o_memo) sz)) 0 0 (va_A (wX1 C a0 a1 a2 z0 o_from o_to o_spots o_memo) sz) := by
  refine Met_ofC (by decide) ?_
  intro p e s m args below meth c hc hv
  obtain ⟨rfl, hsz, hP, hK, hD0, hO, hN0, hT0⟩ := hv
  subst hsz
  have hT : Xt tp (va_A (wX1 C a0 a1 a2 z0 o_from o_to o_spots o_memo) s.heap.size) s s.heap := hT0
  have hD := hD0.self (sz := s.heap.size)
  have hN : ∀ q ∈ [cX0 z0 o_board_size o_board_cells o_board_all o_board_upper o_board_lower o_board_left o_board_right], ¬ va_A (wX1 C a0 a1 a2 z0 o_from o_to o_spots o_memo) s.heap.size q.1 := hN0
  generalize hAe : va_A (wX1 C a0 a1 a2 z0 o_from o_to o_spots o_memo) s.heap.size = A at hD hN hT ⊢
  have hA : ∀ q : Nat, s.heap.size ≤ q → A q := fun q h => by rw [← hAe]; exact Or.inr h
  have hS : va_S A s.heap s.heap [] := va_S.rf
  have hx := hc.1
  have hb := hc.2.1
  have hown := hc.2.2.2.2.1
  have hts := hc.2.2.2.2.2.1
  refine en_F rfl (fun ls hl => ?_)
  have hl : lv_has ls 13 [(0, .ref a0), (1, .long p1), (3, .long p2), (5, .int p3)] := hl
  refine lv_lconst (v := (0 : Int64)) hx hb dX1_winningSpots_0 (by decide) ?_
  refine lv_lstore (lv' := [(6, .long (0 : Int64)), (0, .ref a0), (1, .long p1), (3, .long p2), (5, .int p3)]) hx hb dX1_winningSpots_1 hl (by decide) rfl (fun ls hl => ?_)
  refine lv_aload_n hx hb dX1_winningSpots_3 rfl (lv_at hl 1 rfl) ?_
  refine lv_lload_n hx hb dX1_winningSpots_4 rfl (lv_at hl 2 rfl) ?_
  refine lv_lload_n hx hb dX1_winningSpots_5 rfl (lv_at hl 3 rfl) ?_
  refine lv_iload hx hb dX1_winningSpots_6 (lv_at hl 4 rfl) ?_
  obtain ⟨u1, hu1, hf⟩ := bind_some hf
  refine wcViX (A := A) (wc := wX1 C a0 a1 a2 z0 o_from o_to o_spots o_memo) (w1 := wX1 C a0 a1 a2 z0 o_from o_to o_spots u1.2) (rc := [cX0 z0 o_board_size o_board_cells o_board_all o_board_upper o_board_lower o_board_left o_board_right]) (As := [.long p1, .long p2, .int p3]) (rest := []) hc k_X1_73 (c_X1_result l D C tp _ a0 a1 a2 z0 o_from o_to o_spots o_memo o_board_size o_board_cells o_board_all o_board_upper o_board_lower o_board_left o_board_right p1 p2 p3  _ hu1) ⟨rfl, rfl, Nat.le_of_ble_eq_true rfl, Nat.le_of_ble_eq_true rfl⟩ hP hD hS hA hK [0, 1, 2] [] rfl rfl rfl rfl (by decide) ((hP.app (ro_S hO hN hS)).sub [3] rfl) (Ap_cons (fun h9 => hN _ (List.mem_of_getElem? (i := 0) rfl) (va_free (wc := wX1 C a0 a1 a2 z0 o_from o_to o_spots o_memo) hD hS hA [0, 1, 2] rfl _ h9)) Ap_nil) hT (q0 := 0) rfl rfl rfl hl rfl rfl (Nat.le_of_ble_eq_true rfl) ⟨Nat.zero_le _, Nat.zero_le _⟩ dX1_winningSpots_8 (fun H locs hP hD hS => ?_)
  have hP : va_P D vwCl (wX1 C a0 a1 a2 z0 o_from o_to o_spots u1.2) H := hP.sub [0, 1, 2] rfl
  have hD : va_D A (wX1 C a0 a1 a2 z0 o_from o_to o_spots u1.2) := hD.sub [0, 1, 2] rfl rfl
  refine rcSi (As := [.int u1.1]) (rest := []) hc k_X1_77 (c_X1_length l D C u1.1  _ rfl) ⟨rfl, rfl, Nat.le_of_ble_eq_true rfl, Nat.le_of_ble_eq_true rfl⟩ (hP.sub [] rfl) hK hl rfl rfl (Nat.le_of_ble_eq_true rfl) ⟨Nat.zero_le _, Nat.zero_le _⟩ dX1_winningSpots_11 ?_
  refine lv_if_ne (tgt := 20) hx hb dX1_winningSpots_14 (by decide) (fun c2 => ?_) (fun c2 => ?_)
  · have hf := if_f hf c2
    refine lv_iload hx hb dX1_winningSpots_20 (lv_at hl 4 rfl) ?_
    refine lv_if_eq (tgt := 29) hx hb dX1_winningSpots_22 (by decide) (fun c3 => ?_) (fun c3 => ?_)
    · have hf := if_t hf c3
      refine lv_iconst (v := (2 : Int32)) hx hb dX1_winningSpots_29 (by decide) ?_
      exact w_X1_winningSpots_c30 hc hK hA hO hN hT  (0 : Int64) (2 : Int32) u1.2 hf _ _ hP hD hS ls (lv_sub hl [1, 2, 3, 4, 0] rfl)
    · have hf := if_f hf c3
      refine lv_iconst (v := (1 : Int32)) hx hb dX1_winningSpots_25 (by decide) ?_
      refine lv_goto (tgt := 30) hx hb dX1_winningSpots_26 (by decide) ?_
      exact w_X1_winningSpots_c30 hc hK hA hO hN hT  (0 : Int64) (1 : Int32) u1.2 hf _ _ hP hD hS ls (lv_sub hl [1, 2, 3, 4, 0] rfl)
  · have hf := if_t hf c2
    refine lv_lload hx hb dX1_winningSpots_17 (lv_at hl 0 rfl) ?_
    have hf := Option.some.inj hf
    subst hf
    exact rWl hc rfl hP hD hS dX1_winningSpots_19

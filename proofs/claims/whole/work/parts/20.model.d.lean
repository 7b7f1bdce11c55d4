abbrev R_X6_weightOf : Room := { frames := 0, cells := 0, slots := 0, locals := 0 }
def m_X6_weightOf_c47  (k4 : Int32 → Int32 → Option (Int32)) (v3 : Int32) (t0 : Int32) (t1 : Int32) : Option (Int32) := (k4 (t1 + t0) (v3 + (1 : Int32)))
set_option maxHeartbeats 4000000 in
set_option maxRecDepth 100000 in
theorem w_X6_weightOf_c47 {p : Program} {l : Launch} {e : Env} {s : State} {m : MethodId} {args : Array Value} {below : List Frame} {meth : Method} {c : Code} {D : va_G} {C : Nat → ClassId} {z0 : Nat} {z1 : Nat} {o_n : Int32} {r_o_game : Nat} {o_all : Int32} {o_made : Int32} {o_own0 : Int64} {o_own1 : Int64} {r_o_near : Nat} {r_o_kept : Nat} {r_o_isKept : Nat} {r_o_threatOf : Nat} {r_o_threatSet : Nat} {o_threatMany : Int32} {r_o_text : Nat} {o_length : Int32} {r_o_far : Nat} {r_o_back : Nat} {r_o_hole : Nat} {o_holes : Int32} {r_o_won : Nat} {r_o_lasts : Nat} {r_o_power : Nat} {r_o_told : Nat} {o_tellings : Int32} {o_isWon : Nat → Int32} {p1 : Int32} {o : Int32} (hc : Cx p s m args meth c yX6_weightOf cX6_weightOf 4 (some .int)) (hK : va_K D vwCl (TY C) s) (hP : va_P D vwCl [cX6 z0 o_n r_o_game o_all o_made o_own0 o_own1 r_o_near r_o_kept r_o_isKept r_o_threatOf r_o_threatSet o_threatMany r_o_text o_length r_o_far r_o_back r_o_hole o_holes z1 r_o_won r_o_lasts r_o_power r_o_told o_tellings, aZ C z1 4096 o_isWon] s.heap) (k4 : Int32 → Int32 → Option (Int32)) (hk4 : ∀ (v2 : Int32) (v3 : Int32), k4 v2 v3 = some o → ∀ (ls : Array Slot), lv_has ls 4 [(0, .ref z0), (1, .int p1), (2, .int v2), (3, .int v3)] → W p l e R_X6_weightOf s m args below meth c s.heap [] 0 0 (MQ below (vp_Si (fun r => r = o)) args s 0 0 (fun _ => False)) (F0 m 4 ls [])) : ∀ (v3 : Int32) (t0 : Int32) (t1 : Int32), m_X6_weightOf_c47  k4 v3 t0 t1 = some o → ∀ (ls : Array Slot), lv_has ls 4 [(0, .ref z0), (1, .int p1), (3, .int v3)] → W p l e R_X6_weightOf s m args below meth c s.heap [] 0 0 (MQ below (vp_Si (fun r => r = o)) args s 0 0 (fun _ => False)) (F0 m 47 ls [.int t0, .int t1]) := by
  have hx := hc.1
  have hb := hc.2.1
  have hown := hc.2.2.2.2.1
  have hts := hc.2.2.2.2.2.1
  intro v3 t0 t1 hf ls hl
  refine lv_iadd hx hb dX6_weightOf_47 ?_
  refine lv_istore_n (lv' := [(2, .int (t1 + t0)), (0, .ref z0), (1, .int p1), (3, .int v3)]) hx hb dX6_weightOf_48 rfl hl (by decide) rfl (fun ls hl => ?_)
  refine lv_iinc (v := (v3 + (1 : Int32))) (lv' := [(3, .int (v3 + (1 : Int32))), (2, .int (t1 + t0)), (0, .ref z0), (1, .int p1)]) hx hb dX6_weightOf_49 hl (k := 3) rfl rfl (by decide) rfl (fun ls hl => ?_)
  refine lv_goto (tgt := 4) hx hb dX6_weightOf_52 (by decide) ?_
  exact hk4 (t1 + t0) (v3 + (1 : Int32)) hf ls (lv_sub hl [2, 3, 1, 0] rfl)
def m_X6_weightOf_c46  (k4 : Int32 → Int32 → Option (Int32)) (v3 : Int32) (t0 : Int32) : Option (Int32) := (m_X6_weightOf_c47 k4 v3 (0 : Int32) t0)
set_option maxHeartbeats 4000000 in
set_option maxRecDepth 100000 in
theorem w_X6_weightOf_c46 {p : Program} {l : Launch} {e : Env} {s : State} {m : MethodId} {args : Array Value} {below : List Frame} {meth : Method} {c : Code} {D : va_G} {C : Nat → ClassId} {z0 : Nat} {z1 : Nat} {o_n : Int32} {r_o_game : Nat} {o_all : Int32} {o_made : Int32} {o_own0 : Int64} {o_own1 : Int64} {r_o_near : Nat} {r_o_kept : Nat} {r_o_isKept : Nat} {r_o_threatOf : Nat} {r_o_threatSet : Nat} {o_threatMany : Int32} {r_o_text : Nat} {o_length : Int32} {r_o_far : Nat} {r_o_back : Nat} {r_o_hole : Nat} {o_holes : Int32} {r_o_won : Nat} {r_o_lasts : Nat} {r_o_power : Nat} {r_o_told : Nat} {o_tellings : Int32} {o_isWon : Nat → Int32} {p1 : Int32} {o : Int32} (hc : Cx p s m args meth c yX6_weightOf cX6_weightOf 4 (some .int)) (hK : va_K D vwCl (TY C) s) (hP : va_P D vwCl [cX6 z0 o_n r_o_game o_all o_made o_own0 o_own1 r_o_near r_o_kept r_o_isKept r_o_threatOf r_o_threatSet o_threatMany r_o_text o_length r_o_far r_o_back r_o_hole o_holes z1 r_o_won r_o_lasts r_o_power r_o_told o_tellings, aZ C z1 4096 o_isWon] s.heap) (k4 : Int32 → Int32 → Option (Int32)) (hk4 : ∀ (v2 : Int32) (v3 : Int32), k4 v2 v3 = some o → ∀ (ls : Array Slot), lv_has ls 4 [(0, .ref z0), (1, .int p1), (2, .int v2), (3, .int v3)] → W p l e R_X6_weightOf s m args below meth c s.heap [] 0 0 (MQ below (vp_Si (fun r => r = o)) args s 0 0 (fun _ => False)) (F0 m 4 ls [])) : ∀ (v3 : Int32) (t0 : Int32), m_X6_weightOf_c46  k4 v3 t0 = some o → ∀ (ls : Array Slot), lv_has ls 4 [(0, .ref z0), (1, .int p1), (3, .int v3)] → W p l e R_X6_weightOf s m args below meth c s.heap [] 0 0 (MQ below (vp_Si (fun r => r = o)) args s 0 0 (fun _ => False)) (F0 m 46 ls [.int t0]) := by
  have hx := hc.1
  have hb := hc.2.1
  have hown := hc.2.2.2.2.1
  have hts := hc.2.2.2.2.2.1
  intro v3 t0 hf ls hl
  refine lv_iconst (v := (0 : Int32)) hx hb dX6_weightOf_46 (by decide) ?_
  exact w_X6_weightOf_c47 hc hK hP k4 hk4 v3 (0 : Int32) t0 hf ls (lv_sub hl [0, 1, 2] rfl)
def m_X6_weightOf_c4 (o_holes : Int32) (o_isWon : Nat → Int32) (p1 : Int32)  : Nat → Int32 → Int32 → Option (Int32)
  | 0, _, _ => none
  | n + 1, v2, v3 => (if ((1 : Int32) <<< (o_holes &&& 31)) ≤ v3 then some v2 else (if ((v3 >>> (p1 &&& 31)) &&& (1 : Int32)) = 0 then (if okI v3 4096 = true then (if okI (v3 ||| ((1 : Int32) <<< (p1 &&& 31))) 4096 = true then (if (o_isWon v3.toNatClampNeg) = (o_isWon (v3 ||| ((1 : Int32) <<< (p1 &&& 31))).toNatClampNeg) then (m_X6_weightOf_c46 (m_X6_weightOf_c4 o_holes o_isWon p1  n) v3 v2) else (m_X6_weightOf_c47 (m_X6_weightOf_c4 o_holes o_isWon p1  n) v3 (1 : Int32) v2)) else none) else none) else (m_X6_weightOf_c46 (m_X6_weightOf_c4 o_holes o_isWon p1  n) v3 v2)))
set_option maxHeartbeats 4000000 in
set_option maxRecDepth 100000 in
theorem w_X6_weightOf_c4 {p : Program} {l : Launch} {e : Env} {s : State} {m : MethodId} {args : Array Value} {below : List Frame} {meth : Method} {c : Code} {D : va_G} {C : Nat → ClassId} {z0 : Nat} {z1 : Nat} {o_n : Int32} {r_o_game : Nat} {o_all : Int32} {o_made : Int32} {o_own0 : Int64} {o_own1 : Int64} {r_o_near : Nat} {r_o_kept : Nat} {r_o_isKept : Nat} {r_o_threatOf : Nat} {r_o_threatSet : Nat} {o_threatMany : Int32} {r_o_text : Nat} {o_length : Int32} {r_o_far : Nat} {r_o_back : Nat} {r_o_hole : Nat} {o_holes : Int32} {r_o_won : Nat} {r_o_lasts : Nat} {r_o_power : Nat} {r_o_told : Nat} {o_tellings : Int32} {o_isWon : Nat → Int32} {p1 : Int32} {o : Int32} (hc : Cx p s m args meth c yX6_weightOf cX6_weightOf 4 (some .int)) (hK : va_K D vwCl (TY C) s) (hP : va_P D vwCl [cX6 z0 o_n r_o_game o_all o_made o_own0 o_own1 r_o_near r_o_kept r_o_isKept r_o_threatOf r_o_threatSet o_threatMany r_o_text o_length r_o_far r_o_back r_o_hole o_holes z1 r_o_won r_o_lasts r_o_power r_o_told o_tellings, aZ C z1 4096 o_isWon] s.heap) : ∀ (n : Nat), ∀ (v2 : Int32) (v3 : Int32), m_X6_weightOf_c4 o_holes o_isWon p1  n v2 v3 = some o → ∀ (ls : Array Slot), lv_has ls 4 [(0, .ref z0), (1, .int p1), (2, .int v2), (3, .int v3)] → W p l e R_X6_weightOf s m args below meth c s.heap [] 0 0 (MQ below (vp_Si (fun r => r = o)) args s 0 0 (fun _ => False)) (F0 m 4 ls []) := by
  have hx := hc.1
  have hb := hc.2.1
  have hown := hc.2.2.2.2.1
  have hts := hc.2.2.2.2.2.1
  intro n
  induction n with
  | zero =>
    intro v2 v3 hf
    exact no_some hf
  | succ n ih =>
    intro v2 v3 hf ls hl
    refine lv_iload_n hx hb dX6_weightOf_4 rfl (lv_at hl 3 rfl) ?_
    refine lv_iconst (v := (1 : Int32)) hx hb dX6_weightOf_5 (by decide) ?_
    refine lv_aload_n hx hb dX6_weightOf_6 rfl (lv_at hl 0 rfl) ?_
    refine va_get (D := D) (ci := 6) (v := .int o_holes) (C := RX6) (T := TX6) (N := 24) hx hb hts inX6 hown hK hP 0 rfl rfl 17 (by decide) (hts _ q_671) (fun _ h9 => h9) rfl dX6_weightOf_7 ?_
    refine lv_ishl hx hb dX6_weightOf_10 ?_
    refine lv_icmp_ge (tgt := 55) hx hb dX6_weightOf_11 (by decide) (fun c1 => ?_) (fun c1 => ?_)
    · have hf := if_t hf c1
      refine lv_iload_n hx hb dX6_weightOf_55 rfl (lv_at hl 2 rfl) ?_
      exact rRi hc (Option.some.inj hf) dX6_weightOf_56
    · have hf := if_f hf c1
      refine lv_iload_n hx hb dX6_weightOf_14 rfl (lv_at hl 2 rfl) ?_
      refine lv_iload_n hx hb dX6_weightOf_15 rfl (lv_at hl 3 rfl) ?_
      refine lv_iload_n hx hb dX6_weightOf_16 rfl (lv_at hl 1 rfl) ?_
      refine lv_ishr hx hb dX6_weightOf_17 ?_
      refine lv_iconst (v := (1 : Int32)) hx hb dX6_weightOf_18 (by decide) ?_
      refine lv_iand hx hb dX6_weightOf_19 ?_
      refine lv_if_ne (tgt := 46) hx hb dX6_weightOf_20 (by decide) (fun c2 => ?_) (fun c2 => ?_)
      · have hf := if_f hf c2
        exact w_X6_weightOf_c46 hc hK hP (m_X6_weightOf_c4 o_holes o_isWon p1  n) ih v3 v2 hf ls (lv_sub hl [0, 1, 3] rfl)
      · have hf := if_t hf c2
        refine lv_aload_n hx hb dX6_weightOf_23 rfl (lv_at hl 0 rfl) ?_
        refine va_get (D := D) (ci := 6) (v := .ref z1) (C := RX6) (T := TX6) (N := 24) hx hb hts inX6 hown hK hP 0 rfl rfl 18 (by decide) (hts _ q_672) (fun _ h9 => h9) rfl dX6_weightOf_24 ?_
        refine lv_iload_n hx hb dX6_weightOf_27 rfl (lv_at hl 3 rfl) ?_
        obtain ⟨h3, hf⟩ := ok_t hf
        refine va_zald hx hb hK hP 1 3 rfl rfl (okI_in h3) dX6_weightOf_28 ?_
        refine lv_aload_n hx hb dX6_weightOf_29 rfl (lv_at hl 0 rfl) ?_
        refine va_get (D := D) (ci := 6) (v := .ref z1) (C := RX6) (T := TX6) (N := 24) hx hb hts inX6 hown hK hP 0 rfl rfl 18 (by decide) (hts _ q_672) (fun _ h9 => h9) rfl dX6_weightOf_30 ?_
        refine lv_iload_n hx hb dX6_weightOf_33 rfl (lv_at hl 3 rfl) ?_
        refine lv_iconst (v := (1 : Int32)) hx hb dX6_weightOf_34 (by decide) ?_
        refine lv_iload_n hx hb dX6_weightOf_35 rfl (lv_at hl 1 rfl) ?_
        refine lv_ishl hx hb dX6_weightOf_36 ?_
        refine lv_ior hx hb dX6_weightOf_37 ?_
        obtain ⟨h4, hf⟩ := ok_t hf
        refine va_zald hx hb hK hP 1 3 rfl rfl (okI_in h4) dX6_weightOf_38 ?_
        refine lv_icmp_eq (tgt := 46) hx hb dX6_weightOf_39 (by decide) (fun c5 => ?_) (fun c5 => ?_)
        · have hf := if_t hf c5
          exact w_X6_weightOf_c46 hc hK hP (m_X6_weightOf_c4 o_holes o_isWon p1  n) ih v3 v2 hf ls (lv_sub hl [0, 1, 3] rfl)
        · have hf := if_f hf c5
          refine lv_iconst (v := (1 : Int32)) hx hb dX6_weightOf_42 (by decide) ?_
          refine lv_goto (tgt := 47) hx hb dX6_weightOf_43 (by decide) ?_
          exact w_X6_weightOf_c47 hc hK hP (m_X6_weightOf_c4 o_holes o_isWon p1  n) ih v3 (1 : Int32) v2 hf ls (lv_sub hl [0, 1, 3] rfl)
def m_X6_weightOf (o_holes : Int32) (o_isWon : Nat → Int32) (p1 : Int32) : Option (Int32) := (m_X6_weightOf_c4 o_holes o_isWon p1 FU (0 : Int32) (0 : Int32))
set_option maxHeartbeats 4000000 in
set_option maxRecDepth 100000 in
theorem c_X6_weightOf (l : Launch) (D : va_G) (C : Nat → ClassId) (z0 : Nat) (z1 : Nat) (o_n : Int32) (r_o_game : Nat) (o_all : Int32) (o_made : Int32) (o_own0 : Int64) (o_own1 : Int64) (r_o_near : Nat) (r_o_kept : Nat) (r_o_isKept : Nat) (r_o_threatOf : Nat) (r_o_threatSet : Nat) (o_threatMany : Int32) (r_o_text : Nat) (o_length : Int32) (r_o_far : Nat) (r_o_back : Nat) (r_o_hole : Nat) (o_holes : Int32) (r_o_won : Nat) (r_o_lasts : Nat) (r_o_power : Nat) (r_o_told : Nat) (o_tellings : Int32) (o_isWon : Nat → Int32) (p1 : Int32) (o : Int32) (hf : m_X6_weightOf o_holes o_isWon p1 = some o) : Met l yX6_weightOf (wl yX6_weightOf cX6_weightOf 4 (some .int)) R_X6_weightOf (PR [.ref z0, .int p1] D C [cX6 z0 o_n r_o_game o_all o_made o_own0 o_own1 r_o_near r_o_kept r_o_isKept r_o_threatOf r_o_threatSet o_threatMany r_o_text o_length r_o_far r_o_back r_o_hole o_holes z1 r_o_won r_o_lasts r_o_power r_o_told o_tellings, aZ C z1 4096 o_isWon]) (vp_Si (fun r => r = o)) 0 0 (fun _ => False) := by
  refine Met_ofC (by decide) ?_
  intro p e s m args below meth c hc hv
  obtain ⟨rfl, hP, hK⟩ := hv
  have hx := hc.1
  have hb := hc.2.1
  have hown := hc.2.2.2.2.1
  have hts := hc.2.2.2.2.2.1
  refine en_F rfl (fun ls hl => ?_)
  have hl : lv_has ls 4 [(0, .ref z0), (1, .int p1)] := hl
  refine lv_iconst (v := (0 : Int32)) hx hb dX6_weightOf_0 (by decide) ?_
  refine lv_istore_n (lv' := [(2, .int (0 : Int32)), (0, .ref z0), (1, .int p1)]) hx hb dX6_weightOf_1 rfl hl (by decide) rfl (fun ls hl => ?_)
  refine lv_iconst (v := (0 : Int32)) hx hb dX6_weightOf_2 (by decide) ?_
  refine lv_istore_n (lv' := [(3, .int (0 : Int32)), (2, .int (0 : Int32)), (0, .ref z0), (1, .int p1)]) hx hb dX6_weightOf_3 rfl hl (by decide) rfl (fun ls hl => ?_)
  exact w_X6_weightOf_c4 hc hK hP  FU (0 : Int32) (0 : Int32) hf ls (lv_sub hl [2, 3, 1, 0] rfl)
abbrev R_X6_weight : Room := { frames := 5, cells := 0, slots := 0, locals := 122 }
def m_X6_weight_c34 (p1 : Int32)  : Nat → Int32 → Int32 → (Nat → Int32) → (Nat → Int32) → Option (Int32 × Int32 × (Nat → Int32) × (Nat → Int32))
  | 0, _, _, _, _ => none
  | n + 1, v2, o_holes, o_hole, o_isWon => (if okI v2 49 = true then (if (o_hole v2.toNatClampNeg) = p1 then ((m_X6_weightOf o_holes o_isWon v2).bind fun u7 => some (u7, o_holes, o_hole, o_isWon)) else (m_X6_weight_c34 p1  n (v2 + (1 : Int32)) o_holes o_hole o_isWon)) else none)
set_option maxHeartbeats 4000000 in
set_option maxRecDepth 100000 in
theorem w_X6_weight_c34 {p : Program} {l : Launch} {e : Env} {s : State} {m : MethodId} {args : Array Value} {below : List Frame} {meth : Method} {c : Code} {D : va_G} {C : Nat → ClassId} {A : Nat → Prop} {a0 : Nat} {a1 : Nat} {a2 : Nat} {a3 : Nat} {a4 : Nat} {a5 : Nat} {a6 : Nat} {a7 : Nat} {a8 : Nat} {a9 : Nat} {a10 : Nat} {a11 : Nat} {a12 : Nat} {a13 : Nat} {a14 : Nat} {a15 : Nat} {o_n : Int32} {o_all : Int32} {o_made : Int32} {o_own0 : Int64} {o_own1 : Int64} {o_threatMany : Int32} {o_length : Int32} {o_tellings : Int32} {o_game : Nat → Int32} {o_near : Nat → Int64} {o_kept : Nat → Int32} {o_isKept : Nat → Int32} {o_threatOf : Nat → Int32} {o_threatSet : Nat → Int64} {o_text : Nat → Int32} {o_far : Nat → Int32} {o_back : Nat → Int32} {o_won : Nat → Int32} {o_lasts : Nat → Int32} {o_power : Nat → Int32} {o_told : Nat → Int32} {p1 : Int32} {o : Int32 × Int32 × (Nat → Int32) × (Nat → Int32)} (hc : Cx p s m args meth c yX6_weight cX6_weight 3 (some .int)) (hK : va_K D vwCl (TY C) s) (hA : ∀ q : Nat, s.heap.size ≤ q → A q) (hO : va_P D vwCl ([] : va_W) s.heap) (hN : ∀ q ∈ ([] : va_W), ¬ A q.1) : ∀ (n : Nat), ∀ (v2 : Int32) (o_holes : Int32) (o_hole : Nat → Int32) (o_isWon : Nat → Int32), m_X6_weight_c34 p1  n v2 o_holes o_hole o_isWon = some o → ∀ (H : Heap) (locs : List Loc), va_P D vwCl (wX6 C a0 a1 a2 a3 a4 a5 a6 a7 a8 a9 a10 a11 a12 a13 a14 a15 o_n o_all o_made o_own0 o_own1 o_threatMany o_length o_holes o_tellings o_game o_near o_kept o_isKept o_threatOf o_threatSet o_text o_far o_back o_hole o_isWon o_won o_lasts o_power o_told) H → va_D A (wX6 C a0 a1 a2 a3 a4 a5 a6 a7 a8 a9 a10 a11 a12 a13 a14 a15 o_n o_all o_made o_own0 o_own1 o_threatMany o_length o_holes o_tellings o_game o_near o_kept o_isKept o_threatOf o_threatSet o_text o_far o_back o_hole o_isWon o_won o_lasts o_power o_told) → va_S A s.heap H locs → ∀ (ls : Array Slot), lv_has ls 3 [(0, .ref a0), (1, .int p1), (2, .int v2)] → W p l e R_X6_weight s m args below meth c H locs 0 0 (MQ below (QWi D o.1 (wX6 C a0 a1 a2 a3 a4 a5 a6 a7 a8 a9 a10 a11 a12 a13 a14 a15 o_n o_all o_made o_own0 o_own1 o_threatMany o_length o.2.1 o_tellings o_game o_near o_kept o_isKept o_threatOf o_threatSet o_text o_far o_back o.2.2.1 o.2.2.2 o_won o_lasts o_power o_told) A) args s 0 0 A) (F0 m 34 ls []) := by
  have hx := hc.1
  have hb := hc.2.1
  have hown := hc.2.2.2.2.1
  have hts := hc.2.2.2.2.2.1
  intro n
  induction n with
  | zero =>
    intro v2 o_holes o_hole o_isWon hf
    exact no_some hf
  | succ n ih =>
    intro v2 o_holes o_hole o_isWon hf H locs hP hD hS ls hl
    refine lv_aload_n hx hb dX6_weight_34 rfl (lv_at hl 0 rfl) ?_
    refine va_get (D := D) (ci := 6) (v := .ref a10) (C := RX6) (T := TX6) (N := 24) hx hb hts inX6 hown hK hP 0 rfl rfl 16 (by decide) (hts _ q_670) (fun _ h9 => h9) rfl dX6_weight_35 ?_
    refine lv_iload_n hx hb dX6_weight_38 rfl (lv_at hl 2 rfl) ?_
    obtain ⟨h5, hf⟩ := ok_t hf
    refine va_iald hx hb hK hP 10 0 rfl rfl (okI_in h5) dX6_weight_39 ?_
    refine lv_iload_n hx hb dX6_weight_40 rfl (lv_at hl 1 rfl) ?_
    refine lv_icmp_eq (tgt := 50) hx hb dX6_weight_41 (by decide) (fun c6 => ?_) (fun c6 => ?_)
    · have hf := if_t hf c6
      refine lv_aload_n hx hb dX6_weight_50 rfl (lv_at hl 0 rfl) ?_
      refine lv_iload_n hx hb dX6_weight_51 rfl (lv_at hl 2 rfl) ?_
      obtain ⟨u7, hu7, hf⟩ := bind_some hf
      refine rcVi (As := [.int v2]) (rest := []) hc k_X6_188 (c_X6_weightOf l D C a0 a11 o_n a1 o_all o_made o_own0 o_own1 a2 a3 a4 a5 a6 o_threatMany a7 o_length a8 a9 a10 o_holes a12 a13 a14 a15 o_tellings o_isWon v2  _ hu7) ⟨rfl, rfl, Nat.le_of_ble_eq_true rfl, Nat.le_of_ble_eq_true rfl⟩ (hP.sub [0, 11] rfl) hK (q0 := 0) rfl rfl rfl hl rfl rfl (Nat.le_of_ble_eq_true rfl) ⟨Nat.zero_le _, Nat.zero_le _⟩ dX6_weight_52 ?_
      have hf := Option.some.inj hf
      subst hf
      exact rWi hc rfl hP hD hS dX6_weight_55
    · have hf := if_f hf c6
      refine lv_iinc (v := (v2 + (1 : Int32))) (lv' := [(2, .int (v2 + (1 : Int32))), (0, .ref a0), (1, .int p1)]) hx hb dX6_weight_44 hl (k := 2) rfl rfl (by decide) rfl (fun ls hl => ?_)
      refine lv_goto (tgt := 34) hx hb dX6_weight_47 (by decide) ?_
      exact ih (v2 + (1 : Int32)) o_holes o_hole o_isWon hf _ _ hP hD hS ls (lv_sub hl [1, 2, 0] rfl)
def m_X6_weight (o_n : Int32) (o_own0 : Int64) (o_own1 : Int64) (o_holes : Int32) (o_near : Nat → Int64) (o_hole : Nat → Int32) (o_isWon : Nat → Int32) (p1 : Int32) : Option (Int32 × Int32 × (Nat → Int32) × (Nat → Int32)) := (if (m_X6_isCell o_n p1) = 0 then some ((-11 : Int32), o_holes, o_hole, o_isWon) else (if (m_X6_has (m_X6_free o_n o_own0 o_own1) p1) = 0 then some ((-11 : Int32), o_holes, o_hole, o_isWon) else ((m_X6_fills o_n o_own0 o_own1 o_near o_hole o_isWon).bind fun u3 => (if u3.1 = 0 then some ((-13 : Int32), u3.2.1, u3.2.2.1, u3.2.2.2) else (m_X6_weight_c34 p1 FU (0 : Int32) u3.2.1 u3.2.2.1 u3.2.2.2)))))
set_option maxHeartbeats 4000000 in
set_option maxRecDepth 100000 in
theorem c_X6_weight (l : Launch) (D : va_G) (C : Nat → ClassId) (sz : Nat) (a0 : Nat) (a1 : Nat) (a2 : Nat) (a3 : Nat) (a4 : Nat) (a5 : Nat) (a6 : Nat) (a7 : Nat) (a8 : Nat) (a9 : Nat) (a10 : Nat) (a11 : Nat) (a12 : Nat) (a13 : Nat) (a14 : Nat) (a15 : Nat) (o_n : Int32) (o_all : Int32) (o_made : Int32) (o_own0 : Int64) (o_own1 : Int64) (o_threatMany : Int32) (o_length : Int32) (o_holes : Int32) (o_tellings : Int32) (o_game : Nat → Int32) (o_near : Nat → Int64) (o_kept : Nat → Int32) (o_isKept : Nat → Int32) (o_threatOf : Nat → Int32) (o_threatSet : Nat → Int64) (o_text : Nat → Int32) (o_far : Nat → Int32) (o_back : Nat → Int32) (o_hole : Nat → Int32) (o_isWon : Nat → Int32) (o_won : Nat → Int32) (o_lasts : Nat → Int32) (o_power : Nat → Int32) (o_told : Nat → Int32) (p1 : Int32) (o : Int32 × Int32 × (Nat → Int32) × (Nat → Int32)) (hf : m_X6_weight o_n o_own0 o_own1 o_holes o_near o_hole o_isWon p1 = some o) : Met l yX6_weight (wl yX6_weight cX6_weight 3 (some .int)) R_X6_weight (PW [.ref a0, .int p1] D C sz (wX6 C a0 a1 a2 a3 a4 a5 a6 a7 a8 a9 a10 a11 a12 a13 a14 a15 o_n o_all o_made o_own0 o_own1 o_threatMany o_length o_holes o_tellings o_game o_near o_kept o_isKept o_threatOf o_threatSet o_text o_far o_back o_hole o_isWon o_won o_lasts o_power o_told) ([] : va_W)) (QWi D o.1 (wX6 C a0 a1 a2 a3 a4 a5 a6 a7 a8 a9 a10 a11 a12 a13 a14 a15 o_n o_all o_made o_own0 o_own1 o_threatMany o_length o.2.1 o_tellings o_game o_near o_kept o_isKept o_threatOf o_threatSet o_text o_far o_back o.2.2.1 o.2.2.2 o_won o_lasts o_power o_told) (va_A (wX6 C a0 a1 a2 a3 a4 a5 a6 a7 a8 a9 a10 a11 a12 a13 a14 a15 o_n o_all o_made o_own0 o_own1 o_threatMany o_length o_holes o_tellings o_game o_near o_kept o_isKept o_threatOf o_threatSet o_text o_far o_back o_hole o_isWon o_won o_lasts o_power o_told) sz)) 0 0 (va_A (wX6 C a0 a1 a2 a3 a4 a5 a6 a7 a8 a9 a10 a11 a12 a13 a14 a15 o_n o_all o_made o_own0 o_own1 o_threatMany o_length o_holes o_tellings o_game o_near o_kept o_isKept o_threatOf o_threatSet o_text o_far o_back o_hole o_isWon o_won o_lasts o_power o_told) sz) := by
  refine Met_ofC (by decide) ?_
  intro p e s m args below meth c hc hv
  obtain ⟨rfl, hsz, hP, hK, hD0, hO, hN0⟩ := hv
  subst hsz
  have hD := hD0.self (sz := s.heap.size)
  have hN : ∀ q ∈ ([] : va_W), ¬ va_A (wX6 C a0 a1 a2 a3 a4 a5 a6 a7 a8 a9 a10 a11 a12 a13 a14 a15 o_n o_all o_made o_own0 o_own1 o_threatMany o_length o_holes o_tellings o_game o_near o_kept o_isKept o_threatOf o_threatSet o_text o_far o_back o_hole o_isWon o_won o_lasts o_power o_told) s.heap.size q.1 := hN0
  generalize hAe : va_A (wX6 C a0 a1 a2 a3 a4 a5 a6 a7 a8 a9 a10 a11 a12 a13 a14 a15 o_n o_all o_made o_own0 o_own1 o_threatMany o_length o_holes o_tellings o_game o_near o_kept o_isKept o_threatOf o_threatSet o_text o_far o_back o_hole o_isWon o_won o_lasts o_power o_told) s.heap.size = A at hD hN ⊢
  have hA : ∀ q : Nat, s.heap.size ≤ q → A q := fun q h => by rw [← hAe]; exact Or.inr h
  have hS : va_S A s.heap s.heap [] := va_S.rf
  have hx := hc.1
  have hb := hc.2.1
  have hown := hc.2.2.2.2.1
  have hts := hc.2.2.2.2.2.1
  refine en_F rfl (fun ls hl => ?_)
  have hl : lv_has ls 3 [(0, .ref a0), (1, .int p1)] := hl
  refine lv_aload_n hx hb dX6_weight_0 rfl (lv_at hl 0 rfl) ?_
  refine lv_iload_n hx hb dX6_weight_1 rfl (lv_at hl 1 rfl) ?_
  refine rcVi (As := [.int p1]) (rest := []) hc k_X6_122 (c_X6_isCell l D C a0 o_n a1 o_all o_made o_own0 o_own1 a2 a3 a4 a5 a6 o_threatMany a7 o_length a8 a9 a10 o_holes a11 a12 a13 a14 a15 o_tellings p1  _ rfl) ⟨rfl, rfl, Nat.le_of_ble_eq_true rfl, Nat.le_of_ble_eq_true rfl⟩ (hP.sub [0] rfl) hK (q0 := 0) rfl rfl rfl hl rfl rfl (Nat.le_of_ble_eq_true rfl) ⟨Nat.zero_le _, Nat.zero_le _⟩ dX6_weight_2 ?_
  refine lv_if_eq (tgt := 19) hx hb dX6_weight_5 (by decide) (fun c1 => ?_) (fun c1 => ?_)
  · have hf := if_t hf c1
    refine lv_bipush (v := (-11 : Int32)) hx hb dX6_weight_19 (by decide) ?_
    have hf := Option.some.inj hf
    subst hf
    exact rWi hc rfl hP hD hS dX6_weight_21
  · have hf := if_f hf c1
    refine lv_aload_n hx hb dX6_weight_8 rfl (lv_at hl 0 rfl) ?_
    refine rcVl (As := []) (rest := []) hc k_X6_126 (c_X6_free l D C a0 o_n a1 o_all o_made o_own0 o_own1 a2 a3 a4 a5 a6 o_threatMany a7 o_length a8 a9 a10 o_holes a11 a12 a13 a14 a15 o_tellings  _ rfl) ⟨rfl, rfl, Nat.le_of_ble_eq_true rfl, Nat.le_of_ble_eq_true rfl⟩ (hP.sub [0] rfl) hK (q0 := 0) rfl rfl rfl hl rfl rfl (Nat.le_of_ble_eq_true rfl) ⟨Nat.zero_le _, Nat.zero_le _⟩ dX6_weight_9 ?_
    refine lv_iload_n hx hb dX6_weight_12 rfl (lv_at hl 1 rfl) ?_
    refine rcSi (As := [.long (m_X6_free o_n o_own0 o_own1), .int p1]) (rest := []) hc k_X6_85 (c_X6_has l D C (m_X6_free o_n o_own0 o_own1) p1  _ rfl) ⟨rfl, rfl, Nat.le_of_ble_eq_true rfl, Nat.le_of_ble_eq_true rfl⟩ (hP.sub [] rfl) hK hl rfl rfl (Nat.le_of_ble_eq_true rfl) ⟨Nat.zero_le _, Nat.zero_le _⟩ dX6_weight_13 ?_
    refine lv_if_ne (tgt := 22) hx hb dX6_weight_16 (by decide) (fun c2 => ?_) (fun c2 => ?_)
    · have hf := if_f hf c2
      refine lv_aload_n hx hb dX6_weight_22 rfl (lv_at hl 0 rfl) ?_
      obtain ⟨u3, hu3, hf⟩ := bind_some hf
      refine wcVi (A := A) (wc := wX6 C a0 a1 a2 a3 a4 a5 a6 a7 a8 a9 a10 a11 a12 a13 a14 a15 o_n o_all o_made o_own0 o_own1 o_threatMany o_length o_holes o_tellings o_game o_near o_kept o_isKept o_threatOf o_threatSet o_text o_far o_back o_hole o_isWon o_won o_lasts o_power o_told) (w1 := wX6 C a0 a1 a2 a3 a4 a5 a6 a7 a8 a9 a10 a11 a12 a13 a14 a15 o_n o_all o_made o_own0 o_own1 o_threatMany o_length u3.2.1 o_tellings o_game o_near o_kept o_isKept o_threatOf o_threatSet o_text o_far o_back u3.2.2.1 u3.2.2.2 o_won o_lasts o_power o_told) (rc := []) (As := []) (rest := []) hc k_X6_184 (c_X6_fills l D C _ a0 a1 a2 a3 a4 a5 a6 a7 a8 a9 a10 a11 a12 a13 a14 a15 o_n o_all o_made o_own0 o_own1 o_threatMany o_length o_holes o_tellings o_game o_near o_kept o_isKept o_threatOf o_threatSet o_text o_far o_back o_hole o_isWon o_won o_lasts o_power o_told  _ hu3) ⟨rfl, rfl, Nat.le_of_ble_eq_true rfl, Nat.le_of_ble_eq_true rfl⟩ hP hD hS hA hK [0, 1, 2, 3, 4, 5, 6, 7, 8, 9, 10, 11, 12, 13, 14, 15] [] rfl rfl rfl rfl (by decide) (hP.sub [] rfl) Ap_nil (q0 := 0) rfl rfl rfl hl rfl rfl (Nat.le_of_ble_eq_true rfl) ⟨Nat.zero_le _, Nat.zero_le _⟩ dX6_weight_23 (fun H locs hP hD hS => ?_)
      have hP : va_P D vwCl (wX6 C a0 a1 a2 a3 a4 a5 a6 a7 a8 a9 a10 a11 a12 a13 a14 a15 o_n o_all o_made o_own0 o_own1 o_threatMany o_length u3.2.1 o_tellings o_game o_near o_kept o_isKept o_threatOf o_threatSet o_text o_far o_back u3.2.2.1 u3.2.2.2 o_won o_lasts o_power o_told) H := hP.sub [0, 1, 2, 3, 4, 5, 6, 7, 8, 9, 10, 11, 12, 13, 14, 15] rfl
      have hD : va_D A (wX6 C a0 a1 a2 a3 a4 a5 a6 a7 a8 a9 a10 a11 a12 a13 a14 a15 o_n o_all o_made o_own0 o_own1 o_threatMany o_length u3.2.1 o_tellings o_game o_near o_kept o_isKept o_threatOf o_threatSet o_text o_far o_back u3.2.2.1 u3.2.2.2 o_won o_lasts o_power o_told) := hD.sub [0, 1, 2, 3, 4, 5, 6, 7, 8, 9, 10, 11, 12, 13, 14, 15] rfl rfl
      refine lv_if_ne (tgt := 32) hx hb dX6_weight_26 (by decide) (fun c4 => ?_) (fun c4 => ?_)
      · have hf := if_f hf c4
        refine lv_iconst (v := (0 : Int32)) hx hb dX6_weight_32 (by decide) ?_
        refine lv_istore_n (lv' := [(2, .int (0 : Int32)), (0, .ref a0), (1, .int p1)]) hx hb dX6_weight_33 rfl hl (by decide) rfl (fun ls hl => ?_)
        exact w_X6_weight_c34 hc hK hA hO hN  FU (0 : Int32) u3.2.1 u3.2.2.1 u3.2.2.2 hf _ _ hP hD hS ls (lv_sub hl [1, 2, 0] rfl)
      · have hf := if_t hf c4
        refine lv_bipush (v := (-13 : Int32)) hx hb dX6_weight_29 (by decide) ?_
        have hf := Option.some.inj hf
        subst hf
        exact rWi hc rfl hP hD hS dX6_weight_31
    · have hf := if_t hf c2
      refine lv_bipush (v := (-11 : Int32)) hx hb dX6_weight_19 (by decide) ?_
      have hf := Option.some.inj hf
      subst hf
      exact rWi hc rfl hP hD hS dX6_weight_21
abbrev R_X6_dead : Room := { frames := 5, cells := 0, slots := 0, locals := 122 }
def m_X6_dead_c44  (k15 : Int64 → Int32 → Int32 → (Nat → Int32) → (Nat → Int32) → Option (Int64 × Int32 × (Nat → Int32) × (Nat → Int32))) (v3 : Int32) (t0 : Int64) (t1 : Int64) (o_holes : Int32) (o_hole : Nat → Int32) (o_isWon : Nat → Int32) : Option (Int64 × Int32 × (Nat → Int32) × (Nat → Int32)) := (k15 (t1 ||| t0) (v3 + (1 : Int32)) o_holes o_hole o_isWon)
set_option maxHeartbeats 4000000 in
set_option maxRecDepth 100000 in
theorem w_X6_dead_c44 {p : Program} {l : Launch} {e : Env} {s : State} {m : MethodId} {args : Array Value} {below : List Frame} {meth : Method} {c : Code} {D : va_G} {C : Nat → ClassId} {A : Nat → Prop} {a0 : Nat} {a1 : Nat} {a2 : Nat} {a3 : Nat} {a4 : Nat} {a5 : Nat} {a6 : Nat} {a7 : Nat} {a8 : Nat} {a9 : Nat} {a10 : Nat} {a11 : Nat} {a12 : Nat} {a13 : Nat} {a14 : Nat} {a15 : Nat} {o_n : Int32} {o_all : Int32} {o_made : Int32} {o_own0 : Int64} {o_own1 : Int64} {o_threatMany : Int32} {o_length : Int32} {o_tellings : Int32} {o_game : Nat → Int32} {o_near : Nat → Int64} {o_kept : Nat → Int32} {o_isKept : Nat → Int32} {o_threatOf : Nat → Int32} {o_threatSet : Nat → Int64} {o_text : Nat → Int32} {o_far : Nat → Int32} {o_back : Nat → Int32} {o_won : Nat → Int32} {o_lasts : Nat → Int32} {o_power : Nat → Int32} {o_told : Nat → Int32} {o : Int64 × Int32 × (Nat → Int32) × (Nat → Int32)} (hc : Cx p s m args meth c yX6_dead cX6_dead 4 (some .long)) (hK : va_K D vwCl (TY C) s) (hA : ∀ q : Nat, s.heap.size ≤ q → A q) (hO : va_P D vwCl ([] : va_W) s.heap) (hN : ∀ q ∈ ([] : va_W), ¬ A q.1) (k15 : Int64 → Int32 → Int32 → (Nat → Int32) → (Nat → Int32) → Option (Int64 × Int32 × (Nat → Int32) × (Nat → Int32))) (hk15 : ∀ (v1 : Int64) (v3 : Int32) (o_holes : Int32) (o_hole : Nat → Int32) (o_isWon : Nat → Int32), k15 v1 v3 o_holes o_hole o_isWon = some o → ∀ (H : Heap) (locs : List Loc), va_P D vwCl (wX6 C a0 a1 a2 a3 a4 a5 a6 a7 a8 a9 a10 a11 a12 a13 a14 a15 o_n o_all o_made o_own0 o_own1 o_threatMany o_length o_holes o_tellings o_game o_near o_kept o_isKept o_threatOf o_threatSet o_text o_far o_back o_hole o_isWon o_won o_lasts o_power o_told) H → va_D A (wX6 C a0 a1 a2 a3 a4 a5 a6 a7 a8 a9 a10 a11 a12 a13 a14 a15 o_n o_all o_made o_own0 o_own1 o_threatMany o_length o_holes o_tellings o_game o_near o_kept o_isKept o_threatOf o_threatSet o_text o_far o_back o_hole o_isWon o_won o_lasts o_power o_told) → va_S A s.heap H locs → ∀ (ls : Array Slot), lv_has ls 4 [(0, .ref a0), (1, .long v1), (3, .int v3)] → W p l e R_X6_dead s m args below meth c H locs 0 0 (MQ below (QWl D o.1 (wX6 C a0 a1 a2 a3 a4 a5 a6 a7 a8 a9 a10 a11 a12 a13 a14 a15 o_n o_all o_made o_own0 o_own1 o_threatMany o_length o.2.1 o_tellings o_game o_near o_kept o_isKept o_threatOf o_threatSet o_text o_far o_back o.2.2.1 o.2.2.2 o_won o_lasts o_power o_told) A) args s 0 0 A) (F0 m 15 ls [])) : ∀ (v3 : Int32) (t0 : Int64) (t1 : Int64) (o_holes : Int32) (o_hole : Nat → Int32) (o_isWon : Nat → Int32), m_X6_dead_c44  k15 v3 t0 t1 o_holes o_hole o_isWon = some o → ∀ (H : Heap) (locs : List Loc), va_P D vwCl (wX6 C a0 a1 a2 a3 a4 a5 a6 a7 a8 a9 a10 a11 a12 a13 a14 a15 o_n o_all o_made o_own0 o_own1 o_threatMany o_length o_holes o_tellings o_game o_near o_kept o_isKept o_threatOf o_threatSet o_text o_far o_back o_hole o_isWon o_won o_lasts o_power o_told) H → va_D A (wX6 C a0 a1 a2 a3 a4 a5 a6 a7 a8 a9 a10 a11 a12 a13 a14 a15 o_n o_all o_made o_own0 o_own1 o_threatMany o_length o_holes o_tellings o_game o_near o_kept o_isKept o_threatOf o_threatSet o_text o_far o_back o_hole o_isWon o_won o_lasts o_power o_told) → va_S A s.heap H locs → ∀ (ls : Array Slot), lv_has ls 4 [(0, .ref a0), (3, .int v3)] → W p l e R_X6_dead s m args below meth c H locs 0 0 (MQ below (QWl D o.1 (wX6 C a0 a1 a2 a3 a4 a5 a6 a7 a8 a9 a10 a11 a12 a13 a14 a15 o_n o_all o_made o_own0 o_own1 o_threatMany o_length o.2.1 o_tellings o_game o_near o_kept o_isKept o_threatOf o_threatSet o_text o_far o_back o.2.2.1 o.2.2.2 o_won o_lasts o_power o_told) A) args s 0 0 A) (F0 m 44 ls [.long t0, .long t1]) := by
  have hx := hc.1
  have hb := hc.2.1
  have hown := hc.2.2.2.2.1
  have hts := hc.2.2.2.2.2.1
  intro v3 t0 t1 o_holes o_hole o_isWon hf H locs hP hD hS ls hl
  refine lv_lor hx hb dX6_dead_44 ?_
  refine lv_lstore_n (lv' := [(1, .long (t1 ||| t0)), (0, .ref a0), (3, .int v3)]) hx hb dX6_dead_45 rfl hl (by decide) rfl (fun ls hl => ?_)
  refine lv_iinc (v := (v3 + (1 : Int32))) (lv' := [(3, .int (v3 + (1 : Int32))), (1, .long (t1 ||| t0)), (0, .ref a0)]) hx hb dX6_dead_46 hl (k := 2) rfl rfl (by decide) rfl (fun ls hl => ?_)
  refine lv_goto (tgt := 15) hx hb dX6_dead_49 (by decide) ?_
  exact hk15 (t1 ||| t0) (v3 + (1 : Int32)) o_holes o_hole o_isWon hf _ _ hP hD hS ls (lv_sub hl [2, 1, 0] rfl)
def m_X6_dead_c15   : Nat → Int64 → Int32 → Int32 → (Nat → Int32) → (Nat → Int32) → Option (Int64 × Int32 × (Nat → Int32) × (Nat → Int32))
  | 0, _, _, _, _, _ => none
  | n + 1, v1, v3, o_holes, o_hole, o_isWon => (if o_holes ≤ v3 then some (v1, o_holes, o_hole, o_isWon) else ((m_X6_weightOf o_holes o_isWon v3).bind fun u4 => (if u4 = 0 then (if okI v3 49 = true then (m_X6_dead_c44 (m_X6_dead_c15   n) v3 (jshl (1 : Int64) (o_hole v3.toNatClampNeg)) v1 o_holes o_hole o_isWon) else none) else (m_X6_dead_c44 (m_X6_dead_c15   n) v3 (0 : Int64) v1 o_holes o_hole o_isWon))))
set_option maxHeartbeats 4000000 in
set_option maxRecDepth 100000 in
theorem w_X6_dead_c15 {p : Program} {l : Launch} {e : Env} {s : State} {m : MethodId} {args : Array Value} {below : List Frame} {meth : Method} {c : Code} {D : va_G} {C : Nat → ClassId} {A : Nat → Prop} {a0 : Nat} {a1 : Nat} {a2 : Nat} {a3 : Nat} {a4 : Nat} {a5 : Nat} {a6 : Nat} {a7 : Nat} {a8 : Nat} {a9 : Nat} {a10 : Nat} {a11 : Nat} {a12 : Nat} {a13 : Nat} {a14 : Nat} {a15 : Nat} {o_n : Int32} {o_all : Int32} {o_made : Int32} {o_own0 : Int64} {o_own1 : Int64} {o_threatMany : Int32} {o_length : Int32} {o_tellings : Int32} {o_game : Nat → Int32} {o_near : Nat → Int64} {o_kept : Nat → Int32} {o_isKept : Nat → Int32} {o_threatOf : Nat → Int32} {o_threatSet : Nat → Int64} {o_text : Nat → Int32} {o_far : Nat → Int32} {o_back : Nat → Int32} {o_won : Nat → Int32} {o_lasts : Nat → Int32} {o_power : Nat → Int32} {o_told : Nat → Int32} {o : Int64 × Int32 × (Nat → Int32) × (Nat → Int32)} (hc : Cx p s m args meth c yX6_dead cX6_dead 4 (some .long)) (hK : va_K D vwCl (TY C) s) (hA : ∀ q : Nat, s.heap.size ≤ q → A q) (hO : va_P D vwCl ([] : va_W) s.heap) (hN : ∀ q ∈ ([] : va_W), ¬ A q.1) : ∀ (n : Nat), ∀ (v1 : Int64) (v3 : Int32) (o_holes : Int32) (o_hole : Nat → Int32) (o_isWon : Nat → Int32), m_X6_dead_c15   n v1 v3 o_holes o_hole o_isWon = some o → ∀ (H : Heap) (locs : List Loc), va_P D vwCl (wX6 C a0 a1 a2 a3 a4 a5 a6 a7 a8 a9 a10 a11 a12 a13 a14 a15 o_n o_all o_made o_own0 o_own1 o_threatMany o_length o_holes o_tellings o_game o_near o_kept o_isKept o_threatOf o_threatSet o_text o_far o_back o_hole o_isWon o_won o_lasts o_power o_told) H → va_D A (wX6 C a0 a1 a2 a3 a4 a5 a6 a7 a8 a9 a10 a11 a12 a13 a14 a15 o_n o_all o_made o_own0 o_own1 o_threatMany o_length o_holes o_tellings o_game o_near o_kept o_isKept o_threatOf o_threatSet o_text o_far o_back o_hole o_isWon o_won o_lasts o_power o_told) → va_S A s.heap H locs → ∀ (ls : Array Slot), lv_has ls 4 [(0, .ref a0), (1, .long v1), (3, .int v3)] → W p l e R_X6_dead s m args below meth c H locs 0 0 (MQ below (QWl D o.1 (wX6 C a0 a1 a2 a3 a4 a5 a6 a7 a8 a9 a10 a11 a12 a13 a14 a15 o_n o_all o_made o_own0 o_own1 o_threatMany o_length o.2.1 o_tellings o_game o_near o_kept o_isKept o_threatOf o_threatSet o_text o_far o_back o.2.2.1 o.2.2.2 o_won o_lasts o_power o_told) A) args s 0 0 A) (F0 m 15 ls []) := by
  have hx := hc.1
  have hb := hc.2.1
  have hown := hc.2.2.2.2.1
  have hts := hc.2.2.2.2.2.1
  intro n
  induction n with
  | zero =>
    intro v1 v3 o_holes o_hole o_isWon hf
    exact no_some hf
  | succ n ih =>
    intro v1 v3 o_holes o_hole o_isWon hf H locs hP hD hS ls hl
    refine lv_iload_n hx hb dX6_dead_15 rfl (lv_at hl 2 rfl) ?_
    refine lv_aload_n hx hb dX6_dead_16 rfl (lv_at hl 0 rfl) ?_
    refine va_get (D := D) (ci := 6) (v := .int o_holes) (C := RX6) (T := TX6) (N := 24) hx hb hts inX6 hown hK hP 0 rfl rfl 17 (by decide) (hts _ q_671) (fun _ h9 => h9) rfl dX6_dead_17 ?_
    refine lv_icmp_ge (tgt := 52) hx hb dX6_dead_20 (by decide) (fun c3 => ?_) (fun c3 => ?_)
    · have hf := if_t hf c3
      refine lv_lload_n hx hb dX6_dead_52 rfl (lv_at hl 1 rfl) ?_
      have hf := Option.some.inj hf
      subst hf
      exact rWl hc rfl hP hD hS dX6_dead_53
    · have hf := if_f hf c3
      refine lv_lload_n hx hb dX6_dead_23 rfl (lv_at hl 1 rfl) ?_
      refine lv_aload_n hx hb dX6_dead_24 rfl (lv_at hl 0 rfl) ?_
      refine lv_iload_n hx hb dX6_dead_25 rfl (lv_at hl 2 rfl) ?_
      obtain ⟨u4, hu4, hf⟩ := bind_some hf
      refine rcVi (As := [.int v3]) (rest := [.long v1]) hc k_X6_188 (c_X6_weightOf l D C a0 a11 o_n a1 o_all o_made o_own0 o_own1 a2 a3 a4 a5 a6 o_threatMany a7 o_length a8 a9 a10 o_holes a12 a13 a14 a15 o_tellings o_isWon v3  _ hu4) ⟨rfl, rfl, Nat.le_of_ble_eq_true rfl, Nat.le_of_ble_eq_true rfl⟩ (hP.sub [0, 11] rfl) hK (q0 := 0) rfl rfl rfl hl rfl rfl (Nat.le_of_ble_eq_true rfl) ⟨Nat.zero_le _, Nat.zero_le _⟩ dX6_dead_26 ?_
      refine lv_if_ne (tgt := 43) hx hb dX6_dead_29 (by decide) (fun c5 => ?_) (fun c5 => ?_)
      · have hf := if_f hf c5
        refine lv_lconst (v := (0 : Int64)) hx hb dX6_dead_43 (by decide) ?_
        exact w_X6_dead_c44 hc hK hA hO hN (m_X6_dead_c15   n) ih v3 (0 : Int64) v1 o_holes o_hole o_isWon hf _ _ hP hD hS ls (lv_sub hl [0, 2] rfl)
      · have hf := if_t hf c5
        refine lv_lconst (v := (1 : Int64)) hx hb dX6_dead_32 (by decide) ?_
        refine lv_aload_n hx hb dX6_dead_33 rfl (lv_at hl 0 rfl) ?_
        refine va_get (D := D) (ci := 6) (v := .ref a10) (C := RX6) (T := TX6) (N := 24) hx hb hts inX6 hown hK hP 0 rfl rfl 16 (by decide) (hts _ q_670) (fun _ h9 => h9) rfl dX6_dead_34 ?_
        refine lv_iload_n hx hb dX6_dead_37 rfl (lv_at hl 2 rfl) ?_
        obtain ⟨h6, hf⟩ := ok_t hf
        refine va_iald hx hb hK hP 10 0 rfl rfl (okI_in h6) dX6_dead_38 ?_
        refine lv_lshl (v := (jshl (1 : Int64) (o_hole v3.toNatClampNeg))) hx hb dX6_dead_39 rfl ?_
        refine lv_goto (tgt := 44) hx hb dX6_dead_40 (by decide) ?_
        exact w_X6_dead_c44 hc hK hA hO hN (m_X6_dead_c15   n) ih v3 (jshl (1 : Int64) (o_hole v3.toNatClampNeg)) v1 o_holes o_hole o_isWon hf _ _ hP hD hS ls (lv_sub hl [0, 2] rfl)
def m_X6_dead (o_n : Int32) (o_own0 : Int64) (o_own1 : Int64) (o_near : Nat → Int64) (o_hole : Nat → Int32) (o_isWon : Nat → Int32) : Option (Int64 × Int32 × (Nat → Int32) × (Nat → Int32)) := ((m_X6_fills o_n o_own0 o_own1 o_near o_hole o_isWon).bind fun u1 => (if u1.1 = 0 then some ((-13 : Int64), u1.2.1, u1.2.2.1, u1.2.2.2) else (m_X6_dead_c15 FU (0 : Int64) (0 : Int32) u1.2.1 u1.2.2.1 u1.2.2.2)))
set_option maxHeartbeats 4000000 in
set_option maxRecDepth 100000 in
theorem c_X6_dead (l : Launch) (D : va_G) (C : Nat → ClassId) (sz : Nat) (a0 : Nat) (a1 : Nat) (a2 : Nat) (a3 : Nat) (a4 : Nat) (a5 : Nat) (a6 : Nat) (a7 : Nat) (a8 : Nat) (a9 : Nat) (a10 : Nat) (a11 : Nat) (a12 : Nat) (a13 : Nat) (a14 : Nat) (a15 : Nat) (o_n : Int32) (o_all : Int32) (o_made : Int32) (o_own0 : Int64) (o_own1 : Int64) (o_threatMany : Int32) (o_length : Int32) (o_holes : Int32) (o_tellings : Int32) (o_game : Nat → Int32) (o_near : Nat → Int64) (o_kept : Nat → Int32) (o_isKept : Nat → Int32) (o_threatOf : Nat → Int32) (o_threatSet : Nat → Int64) (o_text : Nat → Int32) (o_far : Nat → Int32) (o_back : Nat → Int32) (o_hole : Nat → Int32) (o_isWon : Nat → Int32) (o_won : Nat → Int32) (o_lasts : Nat → Int32) (o_power : Nat → Int32) (o_told : Nat → Int32) (o : Int64 × Int32 × (Nat → Int32) × (Nat → Int32)) (hf : m_X6_dead o_n o_own0 o_own1 o_near o_hole o_isWon = some o) : Met l yX6_dead (wl yX6_dead cX6_dead 4 (some .long)) R_X6_dead (PW [.ref a0] D C sz (wX6 C a0 a1 a2 a3 a4 a5 a6 a7 a8 a9 a10 a11 a12 a13 a14 a15 o_n o_all o_made o_own0 o_own1 o_threatMany o_length o_holes o_tellings o_game o_near o_kept o_isKept o_threatOf o_threatSet o_text o_far o_back o_hole o_isWon o_won o_lasts o_power o_told) ([] : va_W)) (QWl D o.1 (wX6 C a0 a1 a2 a3 a4 a5 a6 a7 a8 a9 a10 a11 a12 a13 a14 a15 o_n o_all o_made o_own0 o_own1 o_threatMany o_length o.2.1 o_tellings o_game o_near o_kept o_isKept o_threatOf o_threatSet o_text o_far o_back o.2.2.1 o.2.2.2 o_won o_lasts o_power o_told) (va_A (wX6 C a0 a1 a2 a3 a4 a5 a6 a7 a8 a9 a10 a11 a12 a13 a14 a15 o_n o_all o_made o_own0 o_own1 o_threatMany o_length o_holes o_tellings o_game o_near o_kept o_isKept o_threatOf o_threatSet o_text o_far o_back o_hole o_isWon o_won o_lasts o_power o_told) sz)) 0 0 (va_A (wX6 C a0 a1 a2 a3 a4 a5 a6 a7 a8 a9 a10 a11 a12 a13 a14 a15 o_n o_all o_made o_own0 o_own1 o_threatMany o_length o_holes o_tellings o_game o_near o_kept o_isKept o_threatOf o_threatSet o_text o_far o_back o_hole o_isWon o_won o_lasts o_power o_told) sz) := by
  refine Met_ofC (by decide) ?_
  intro p e s m args below meth c hc hv
  obtain ⟨rfl, hsz, hP, hK, hD0, hO, hN0⟩ := hv
  subst hsz
  have hD := hD0.self (sz := s.heap.size)
  have hN : ∀ q ∈ ([] : va_W), ¬ va_A (wX6 C a0 a1 a2 a3 a4 a5 a6 a7 a8 a9 a10 a11 a12 a13 a14 a15 o_n o_all o_made o_own0 o_own1 o_threatMany o_length o_holes o_tellings o_game o_near o_kept o_isKept o_threatOf o_threatSet o_text o_far o_back o_hole o_isWon o_won o_lasts o_power o_told) s.heap.size q.1 := hN0
  generalize hAe : va_A (wX6 C a0 a1 a2 a3 a4 a5 a6 a7 a8 a9 a10 a11 a12 a13 a14 a15 o_n o_all o_made o_own0 o_own1 o_threatMany o_length o_holes o_tellings o_game o_near o_kept o_isKept o_threatOf o_threatSet o_text o_far o_back o_hole o_isWon o_won o_lasts o_power o_told) s.heap.size = A at hD hN ⊢
  have hA : ∀ q : Nat, s.heap.size ≤ q → A q := fun q h => by rw [← hAe]; exact Or.inr h
  have hS : va_S A s.heap s.heap [] := va_S.rf
  have hx := hc.1
  have hb := hc.2.1
  have hown := hc.2.2.2.2.1
  have hts := hc.2.2.2.2.2.1
  refine en_F rfl (fun ls hl => ?_)
  have hl : lv_has ls 4 [(0, .ref a0)] := hl
  refine lv_aload_n hx hb dX6_dead_0 rfl (lv_at hl 0 rfl) ?_
  obtain ⟨u1, hu1, hf⟩ := bind_some hf
  refine wcVi (A := A) (wc := wX6 C a0 a1 a2 a3 a4 a5 a6 a7 a8 a9 a10 a11 a12 a13 a14 a15 o_n o_all o_made o_own0 o_own1 o_threatMany o_length o_holes o_tellings o_game o_near o_kept o_isKept o_threatOf o_threatSet o_text o_far o_back o_hole o_isWon o_won o_lasts o_power o_told) (w1 := wX6 C a0 a1 a2 a3 a4 a5 a6 a7 a8 a9 a10 a11 a12 a13 a14 a15 o_n o_all o_made o_own0 o_own1 o_threatMany o_length u1.2.1 o_tellings o_game o_near o_kept o_isKept o_threatOf o_threatSet o_text o_far o_back u1.2.2.1 u1.2.2.2 o_won o_lasts o_power o_told) (rc := []) (As := []) (rest := []) hc k_X6_184 (c_X6_fills l D C _ a0 a1 a2 a3 a4 a5 a6 a7 a8 a9 a10 a11 a12 a13 a14 a15 o_n o_all o_made o_own0 o_own1 o_threatMany o_length o_holes o_tellings o_game o_near o_kept o_isKept o_threatOf o_threatSet o_text o_far o_back o_hole o_isWon o_won o_lasts o_power o_told  _ hu1) ⟨rfl, rfl, Nat.le_of_ble_eq_true rfl, Nat.le_of_ble_eq_true rfl⟩ hP hD hS hA hK [0, 1, 2, 3, 4, 5, 6, 7, 8, 9, 10, 11, 12, 13, 14, 15] [] rfl rfl rfl rfl (by decide) (hP.sub [] rfl) Ap_nil (q0 := 0) rfl rfl rfl hl rfl rfl (Nat.le_of_ble_eq_true rfl) ⟨Nat.zero_le _, Nat.zero_le _⟩ dX6_dead_1 (fun H locs hP hD hS => ?_)
  have hP : va_P D vwCl (wX6 C a0 a1 a2 a3 a4 a5 a6 a7 a8 a9 a10 a11 a12 a13 a14 a15 o_n o_all o_made o_own0 o_own1 o_threatMany o_length u1.2.1 o_tellings o_game o_near o_kept o_isKept o_threatOf o_threatSet o_text o_far o_back u1.2.2.1 u1.2.2.2 o_won o_lasts o_power o_told) H := hP.sub [0, 1, 2, 3, 4, 5, 6, 7, 8, 9, 10, 11, 12, 13, 14, 15] rfl
  have hD : va_D A (wX6 C a0 a1 a2 a3 a4 a5 a6 a7 a8 a9 a10 a11 a12 a13 a14 a15 o_n o_all o_made o_own0 o_own1 o_threatMany o_length u1.2.1 o_tellings o_game o_near o_kept o_isKept o_threatOf o_threatSet o_text o_far o_back u1.2.2.1 u1.2.2.2 o_won o_lasts o_power o_told) := hD.sub [0, 1, 2, 3, 4, 5, 6, 7, 8, 9, 10, 11, 12, 13, 14, 15] rfl rfl
  refine lv_if_ne (tgt := 11) hx hb dX6_dead_4 (by decide) (fun c2 => ?_) (fun c2 => ?_)
  · have hf := if_f hf c2
    refine lv_lconst (v := (0 : Int64)) hx hb dX6_dead_11 (by decide) ?_
    refine lv_lstore_n (lv' := [(1, .long (0 : Int64)), (0, .ref a0)]) hx hb dX6_dead_12 rfl hl (by decide) rfl (fun ls hl => ?_)
    refine lv_iconst (v := (0 : Int32)) hx hb dX6_dead_13 (by decide) ?_
    refine lv_istore_n (lv' := [(3, .int (0 : Int32)), (1, .long (0 : Int64)), (0, .ref a0)]) hx hb dX6_dead_14 rfl hl (by decide) rfl (fun ls hl => ?_)
    exact w_X6_dead_c15 hc hK hA hO hN  FU (0 : Int64) (0 : Int32) u1.2.1 u1.2.2.1 u1.2.2.2 hf _ _ hP hD hS ls (lv_sub hl [2, 1, 0] rfl)
  · have hf := if_t hf c2
    refine lv_ldc2 (v := (-13 : Int64)) hx hb hown (hts _ q_924) dX6_dead_7 ?_
    have hf := Option.some.inj hf
    subst hf
    exact rWl hc rfl hP hD hS dX6_dead_10
abbrev R_X6_powers : Room := { frames := 0, cells := 0, slots := 0, locals := 0 }
def m_X6_powers_c9   : Nat → Int32 → (Nat → Int32) → Option ((Nat → Int32))
  | 0, _, _ => none
  | n + 1, v1, o_power => (if (10 : Int32) ≤ v1 then some o_power else (if okI (v1 - (1 : Int32)) 10 = true then (if okI v1 10 = true then (m_X6_powers_c9   n (v1 + (1 : Int32)) (upd o_power v1.toNatClampNeg ((3 : Int32) * (o_power (v1 - (1 : Int32)).toNatClampNeg)))) else none) else none))
set_option maxHeartbeats 4000000 in
set_option maxRecDepth 100000 in
theorem w_X6_powers_c9 {p : Program} {l : Launch} {e : Env} {s : State} {m : MethodId} {args : Array Value} {below : List Frame} {meth : Method} {c : Code} {D : va_G} {C : Nat → ClassId} {A : Nat → Prop} {a0 : Nat} {a1 : Nat} {a2 : Nat} {a3 : Nat} {a4 : Nat} {a5 : Nat} {a6 : Nat} {a7 : Nat} {a8 : Nat} {a9 : Nat} {a10 : Nat} {a11 : Nat} {a12 : Nat} {a13 : Nat} {a14 : Nat} {a15 : Nat} {o_n : Int32} {o_all : Int32} {o_made : Int32} {o_own0 : Int64} {o_own1 : Int64} {o_threatMany : Int32} {o_length : Int32} {o_holes : Int32} {o_tellings : Int32} {o_game : Nat → Int32} {o_near : Nat → Int64} {o_kept : Nat → Int32} {o_isKept : Nat → Int32} {o_threatOf : Nat → Int32} {o_threatSet : Nat → Int64} {o_text : Nat → Int32} {o_far : Nat → Int32} {o_back : Nat → Int32} {o_hole : Nat → Int32} {o_isWon : Nat → Int32} {o_won : Nat → Int32} {o_lasts : Nat → Int32} {o_told : Nat → Int32} {o : (Nat → Int32)} (hc : Cx p s m args meth c yX6_powers cX6_powers 2 none) (hK : va_K D vwCl (TY C) s) (hA : ∀ q : Nat, s.heap.size ≤ q → A q) (hO : va_P D vwCl ([] : va_W) s.heap) (hN : ∀ q ∈ ([] : va_W), ¬ A q.1) : ∀ (n : Nat), ∀ (v1 : Int32) (o_power : Nat → Int32), m_X6_powers_c9   n v1 o_power = some o → ∀ (H : Heap) (locs : List Loc), va_P D vwCl (wX6 C a0 a1 a2 a3 a4 a5 a6 a7 a8 a9 a10 a11 a12 a13 a14 a15 o_n o_all o_made o_own0 o_own1 o_threatMany o_length o_holes o_tellings o_game o_near o_kept o_isKept o_threatOf o_threatSet o_text o_far o_back o_hole o_isWon o_won o_lasts o_power o_told) H → va_D A (wX6 C a0 a1 a2 a3 a4 a5 a6 a7 a8 a9 a10 a11 a12 a13 a14 a15 o_n o_all o_made o_own0 o_own1 o_threatMany o_length o_holes o_tellings o_game o_near o_kept o_isKept o_threatOf o_threatSet o_text o_far o_back o_hole o_isWon o_won o_lasts o_power o_told) → va_S A s.heap H locs → ∀ (ls : Array Slot), lv_has ls 2 [(0, .ref a0), (1, .int v1)] → W p l e R_X6_powers s m args below meth c H locs 0 0 (MQ below (QWv D (wX6 C a0 a1 a2 a3 a4 a5 a6 a7 a8 a9 a10 a11 a12 a13 a14 a15 o_n o_all o_made o_own0 o_own1 o_threatMany o_length o_holes o_tellings o_game o_near o_kept o_isKept o_threatOf o_threatSet o_text o_far o_back o_hole o_isWon o_won o_lasts o o_told) A) args s 0 0 A) (F0 m 9 ls []) := by
  have hx := hc.1
  have hb := hc.2.1
  have hown := hc.2.2.2.2.1
  have hts := hc.2.2.2.2.2.1
  intro n
  induction n with
  | zero =>
    intro v1 o_power hf
    exact no_some hf
  | succ n ih =>
    intro v1 o_power hf H locs hP hD hS ls hl
    refine lv_iload_n hx hb dX6_powers_9 rfl (lv_at hl 1 rfl) ?_
    refine lv_bipush (v := (10 : Int32)) hx hb dX6_powers_10 (by decide) ?_
    refine lv_icmp_ge (tgt := 37) hx hb dX6_powers_12 (by decide) (fun c1 => ?_) (fun c1 => ?_)
    · have hf := if_t hf c1
      have hf := Option.some.inj hf
      subst hf
      exact rWv hc hP hD hS dX6_powers_37
    · have hf := if_f hf c1
      refine lv_aload_n hx hb dX6_powers_15 rfl (lv_at hl 0 rfl) ?_
      refine va_get (D := D) (ci := 6) (v := .ref a14) (C := RX6) (T := TX6) (N := 24) hx hb hts inX6 hown hK hP 0 rfl rfl 21 (by decide) (hts _ q_675) (fun _ h9 => h9) rfl dX6_powers_16 ?_
      refine lv_iload_n hx hb dX6_powers_19 rfl (lv_at hl 1 rfl) ?_
      refine lv_iconst (v := (3 : Int32)) hx hb dX6_powers_20 (by decide) ?_
      refine lv_aload_n hx hb dX6_powers_21 rfl (lv_at hl 0 rfl) ?_
      refine va_get (D := D) (ci := 6) (v := .ref a14) (C := RX6) (T := TX6) (N := 24) hx hb hts inX6 hown hK hP 0 rfl rfl 21 (by decide) (hts _ q_675) (fun _ h9 => h9) rfl dX6_powers_22 ?_
      refine lv_iload_n hx hb dX6_powers_25 rfl (lv_at hl 1 rfl) ?_
      refine lv_iconst (v := (1 : Int32)) hx hb dX6_powers_26 (by decide) ?_
      refine lv_isub hx hb dX6_powers_27 ?_
      obtain ⟨h2, hf⟩ := ok_t hf
      refine va_iald hx hb hK hP 14 0 rfl rfl (okI_in h2) dX6_powers_28 ?_
      refine lv_imul hx hb dX6_powers_29 ?_
      obtain ⟨h3, hf⟩ := ok_t hf
      refine va_iast hx hb hK hP hD hS 14 0 rfl rfl (okI_in h3) dX6_powers_30 (fun H locs hP hD hS => ?_)
      have hP : va_P D vwCl (wX6 C a0 a1 a2 a3 a4 a5 a6 a7 a8 a9 a10 a11 a12 a13 a14 a15 o_n o_all o_made o_own0 o_own1 o_threatMany o_length o_holes o_tellings o_game o_near o_kept o_isKept o_threatOf o_threatSet o_text o_far o_back o_hole o_isWon o_won o_lasts (upd o_power v1.toNatClampNeg ((3 : Int32) * (o_power (v1 - (1 : Int32)).toNatClampNeg))) o_told) H := hP
      have hD : va_D A (wX6 C a0 a1 a2 a3 a4 a5 a6 a7 a8 a9 a10 a11 a12 a13 a14 a15 o_n o_all o_made o_own0 o_own1 o_threatMany o_length o_holes o_tellings o_game o_near o_kept o_isKept o_threatOf o_threatSet o_text o_far o_back o_hole o_isWon o_won o_lasts (upd o_power v1.toNatClampNeg ((3 : Int32) * (o_power (v1 - (1 : Int32)).toNatClampNeg))) o_told) := hD
      refine lv_iinc (v := (v1 + (1 : Int32))) (lv' := [(1, .int (v1 + (1 : Int32))), (0, .ref a0)]) hx hb dX6_powers_31 hl (k := 1) rfl rfl (by decide) rfl (fun ls hl => ?_)
      refine lv_goto (tgt := 9) hx hb dX6_powers_34 (by decide) ?_
      exact ih (v1 + (1 : Int32)) (upd o_power v1.toNatClampNeg ((3 : Int32) * (o_power (v1 - (1 : Int32)).toNatClampNeg))) hf _ _ hP hD hS ls (lv_sub hl [1, 0] rfl)
def m_X6_powers (o_power : Nat → Int32) : Option ((Nat → Int32)) := (m_X6_powers_c9 FU (1 : Int32) (upd o_power (0 : Int32).toNatClampNeg (1 : Int32)))
set_option maxHeartbeats 4000000 in
set_option maxRecDepth 100000 in
theorem c_X6_powers (l : Launch) (D : va_G) (C : Nat → ClassId) (sz : Nat) (a0 : Nat) (a1 : Nat) (a2 : Nat) (a3 : Nat) (a4 : Nat) (a5 : Nat) (a6 : Nat) (a7 : Nat) (a8 : Nat) (a9 : Nat) (a10 : Nat) (a11 : Nat) (a12 : Nat) (a13 : Nat) (a14 : Nat) (a15 : Nat) (o_n : Int32) (o_all : Int32) (o_made : Int32) (o_own0 : Int64) (o_own1 : Int64) (o_threatMany : Int32) (o_length : Int32) (o_holes : Int32) (o_tellings : Int32) (o_game : Nat → Int32) (o_near : Nat → Int64) (o_kept : Nat → Int32) (o_isKept : Nat → Int32) (o_threatOf : Nat → Int32) (o_threatSet : Nat → Int64) (o_text : Nat → Int32) (o_far : Nat → Int32) (o_back : Nat → Int32) (o_hole : Nat → Int32) (o_isWon : Nat → Int32) (o_won : Nat → Int32) (o_lasts : Nat → Int32) (o_power : Nat → Int32) (o_told : Nat → Int32) (o : (Nat → Int32)) (hf : m_X6_powers o_power = some o) : Met l yX6_powers (wl yX6_powers cX6_powers 2 none) R_X6_powers (PW [.ref a0] D C sz (wX6 C a0 a1 a2 a3 a4 a5 a6 a7 a8 a9 a10 a11 a12 a13 a14 a15 o_n o_all o_made o_own0 o_own1 o_threatMany o_length o_holes o_tellings o_game o_near o_kept o_isKept o_threatOf o_threatSet o_text o_far o_back o_hole o_isWon o_won o_lasts o_power o_told) ([] : va_W)) (QWv D (wX6 C a0 a1 a2 a3 a4 a5 a6 a7 a8 a9 a10 a11 a12 a13 a14 a15 o_n o_all o_made o_own0 o_own1 o_threatMany o_length o_holes o_tellings o_game o_near o_kept o_isKept o_threatOf o_threatSet o_text o_far o_back o_hole o_isWon o_won o_lasts o o_told) (va_A (wX6 C a0 a1 a2 a3 a4 a5 a6 a7 a8 a9 a10 a11 a12 a13 a14 a15 o_n o_all o_made o_own0 o_own1 o_threatMany o_length o_holes o_tellings o_game o_near o_kept o_isKept o_threatOf o_threatSet o_text o_far o_back o_hole o_isWon o_won o_lasts o_power o_told) sz)) 0 0 (va_A (wX6 C a0 a1 a2 a3 a4 a5 a6 a7 a8 a9 a10 a11 a12 a13 a14 a15 o_n o_all o_made o_own0 o_own1 o_threatMany o_length o_holes o_tellings o_game o_near o_kept o_isKept o_threatOf o_threatSet o_text o_far o_back o_hole o_isWon o_won o_lasts o_power o_told) sz) := by
  refine Met_ofC (by decide) ?_
  intro p e s m args below meth c hc hv
  obtain ⟨rfl, hsz, hP, hK, hD0, hO, hN0⟩ := hv
  subst hsz
  have hD := hD0.self (sz := s.heap.size)
  have hN : ∀ q ∈ ([] : va_W), ¬ va_A (wX6 C a0 a1 a2 a3 a4 a5 a6 a7 a8 a9 a10 a11 a12 a13 a14 a15 o_n o_all o_made o_own0 o_own1 o_threatMany o_length o_holes o_tellings o_game o_near o_kept o_isKept o_threatOf o_threatSet o_text o_far o_back o_hole o_isWon o_won o_lasts o_power o_told) s.heap.size q.1 := hN0
  generalize hAe : va_A (wX6 C a0 a1 a2 a3 a4 a5 a6 a7 a8 a9 a10 a11 a12 a13 a14 a15 o_n o_all o_made o_own0 o_own1 o_threatMany o_length o_holes o_tellings o_game o_near o_kept o_isKept o_threatOf o_threatSet o_text o_far o_back o_hole o_isWon o_won o_lasts o_power o_told) s.heap.size = A at hD hN ⊢
  have hA : ∀ q : Nat, s.heap.size ≤ q → A q := fun q h => by rw [← hAe]; exact Or.inr h
  have hS : va_S A s.heap s.heap [] := va_S.rf
  have hx := hc.1
  have hb := hc.2.1
  have hown := hc.2.2.2.2.1
  have hts := hc.2.2.2.2.2.1
  refine en_F rfl (fun ls hl => ?_)
  have hl : lv_has ls 2 [(0, .ref a0)] := hl
  refine lv_aload_n hx hb dX6_powers_0 rfl (lv_at hl 0 rfl) ?_
  refine va_get (D := D) (ci := 6) (v := .ref a14) (C := RX6) (T := TX6) (N := 24) hx hb hts inX6 hown hK hP 0 rfl rfl 21 (by decide) (hts _ q_675) (fun _ h9 => h9) rfl dX6_powers_1 ?_
  refine lv_iconst (v := (0 : Int32)) hx hb dX6_powers_4 (by decide) ?_
  refine lv_iconst (v := (1 : Int32)) hx hb dX6_powers_5 (by decide) ?_
  refine va_iast hx hb hK hP hD hS 14 0 rfl rfl (okI_in (by decide)) dX6_powers_6 (fun H locs hP hD hS => ?_)
  have hP : va_P D vwCl (wX6 C a0 a1 a2 a3 a4 a5 a6 a7 a8 a9 a10 a11 a12 a13 a14 a15 o_n o_all o_made o_own0 o_own1 o_threatMany o_length o_holes o_tellings o_game o_near o_kept o_isKept o_threatOf o_threatSet o_text o_far o_back o_hole o_isWon o_won o_lasts (upd o_power (0 : Int32).toNatClampNeg (1 : Int32)) o_told) H := hP
  have hD : va_D A (wX6 C a0 a1 a2 a3 a4 a5 a6 a7 a8 a9 a10 a11 a12 a13 a14 a15 o_n o_all o_made o_own0 o_own1 o_threatMany o_length o_holes o_tellings o_game o_near o_kept o_isKept o_threatOf o_threatSet o_text o_far o_back o_hole o_isWon o_won o_lasts (upd o_power (0 : Int32).toNatClampNeg (1 : Int32)) o_told) := hD
  refine lv_iconst (v := (1 : Int32)) hx hb dX6_powers_7 (by decide) ?_
  refine lv_istore_n (lv' := [(1, .int (1 : Int32)), (0, .ref a0)]) hx hb dX6_powers_8 rfl hl (by decide) rfl (fun ls hl => ?_)
  exact w_X6_powers_c9 hc hK hA hO hN  FU (1 : Int32) (upd o_power (0 : Int32).toNatClampNeg (1 : Int32)) hf _ _ hP hD hS ls (lv_sub hl [1, 0] rfl)
abbrev R_X6_digit : Room := { frames := 0, cells := 0, slots := 0, locals := 0 }
def m_X6_digit (o_power : Nat → Int32) (p1 : Int32) (p2 : Int32) : Option (Int32) := (if okI p2 10 = true then (if (o_power p2.toNatClampNeg) = 0 then none else some (jirem (p1 / (o_power p2.toNatClampNeg)) (3 : Int32))) else none)
set_option maxHeartbeats 4000000 in
set_option maxRecDepth 100000 in
theorem c_X6_digit (l : Launch) (D : va_G) (C : Nat → ClassId) (z0 : Nat) (z1 : Nat) (o_n : Int32) (r_o_game : Nat) (o_all : Int32) (o_made : Int32) (o_own0 : Int64) (o_own1 : Int64) (r_o_near : Nat) (r_o_kept : Nat) (r_o_isKept : Nat) (r_o_threatOf : Nat) (r_o_threatSet : Nat) (o_threatMany : Int32) (r_o_text : Nat) (o_length : Int32) (r_o_far : Nat) (r_o_back : Nat) (r_o_hole : Nat) (o_holes : Int32) (r_o_isWon : Nat) (r_o_won : Nat) (r_o_lasts : Nat) (r_o_told : Nat) (o_tellings : Int32) (o_power : Nat → Int32) (p1 : Int32) (p2 : Int32) (o : Int32) (hf : m_X6_digit o_power p1 p2 = some o) : Met l yX6_digit (wl yX6_digit cX6_digit 3 (some .int)) R_X6_digit (PR [.ref z0, .int p1, .int p2] D C [cX6 z0 o_n r_o_game o_all o_made o_own0 o_own1 r_o_near r_o_kept r_o_isKept r_o_threatOf r_o_threatSet o_threatMany r_o_text o_length r_o_far r_o_back r_o_hole o_holes r_o_isWon r_o_won r_o_lasts z1 r_o_told o_tellings, aI C z1 10 o_power]) (vp_Si (fun r => r = o)) 0 0 (fun _ => False) := by
  refine Met_ofC (by decide) ?_
  intro p e s m args below meth c hc hv
  obtain ⟨rfl, hP, hK⟩ := hv
  have hx := hc.1
  have hb := hc.2.1
  have hown := hc.2.2.2.2.1
  have hts := hc.2.2.2.2.2.1
  refine en_F rfl (fun ls hl => ?_)
  have hl : lv_has ls 3 [(0, .ref z0), (1, .int p1), (2, .int p2)] := hl
  refine lv_iload_n hx hb dX6_digit_0 rfl (lv_at hl 1 rfl) ?_
  refine lv_aload_n hx hb dX6_digit_1 rfl (lv_at hl 0 rfl) ?_
  refine va_get (D := D) (ci := 6) (v := .ref z1) (C := RX6) (T := TX6) (N := 24) hx hb hts inX6 hown hK hP 0 rfl rfl 21 (by decide) (hts _ q_675) (fun _ h9 => h9) rfl dX6_digit_2 ?_
  refine lv_iload_n hx hb dX6_digit_5 rfl (lv_at hl 2 rfl) ?_
  obtain ⟨h1, hf⟩ := ok_t hf
  refine va_iald hx hb hK hP 1 0 rfl rfl (okI_in h1) dX6_digit_6 ?_
  obtain ⟨h2, hf⟩ := nz_t hf
  refine lv_idiv hx hb dX6_digit_7 h2 ?_
  refine lv_iconst (v := (3 : Int32)) hx hb dX6_digit_8 (by decide) ?_
  refine lv_irem hx hb dX6_digit_9 (by decide) ?_
  exact rRi hc (Option.some.inj hf) dX6_digit_10
abbrev R_X6_laid : Room := { frames := 1, cells := 0, slots := 0, locals := 22 }
def m_X6_laid_c45  (k9 : Int64 → Int32 → Option (Int64)) (v5 : Int32) (t0 : Int64) (t1 : Int64) : Option (Int64) := (k9 (t1 ||| t0) (v5 + (1 : Int32)))
set_option maxHeartbeats 4000000 in
set_option maxRecDepth 100000 in
theorem w_X6_laid_c45 {p : Program} {l : Launch} {e : Env} {s : State} {m : MethodId} {args : Array Value} {below : List Frame} {meth : Method} {c : Code} {D : va_G} {C : Nat → ClassId} {z0 : Nat} {z1 : Nat} {z2 : Nat} {o_n : Int32} {r_o_game : Nat} {o_all : Int32} {o_made : Int32} {o_own0 : Int64} {o_own1 : Int64} {r_o_near : Nat} {r_o_kept : Nat} {r_o_isKept : Nat} {r_o_threatOf : Nat} {r_o_threatSet : Nat} {o_threatMany : Int32} {r_o_text : Nat} {o_length : Int32} {r_o_far : Nat} {r_o_back : Nat} {o_holes : Int32} {r_o_isWon : Nat} {r_o_won : Nat} {r_o_lasts : Nat} {r_o_told : Nat} {o_tellings : Int32} {o_power : Nat → Int32} {o_hole : Nat → Int32} {p1 : Int32} {p2 : Int32} {o : Int64} (hc : Cx p s m args meth c yX6_laid cX6_laid 6 (some .long)) (hK : va_K D vwCl (TY C) s) (hP : va_P D vwCl [cX6 z0 o_n r_o_game o_all o_made o_own0 o_own1 r_o_near r_o_kept r_o_isKept r_o_threatOf r_o_threatSet o_threatMany r_o_text o_length r_o_far r_o_back z2 o_holes r_o_isWon r_o_won r_o_lasts z1 r_o_told o_tellings, aI C z1 10 o_power, aI C z2 49 o_hole] s.heap) (k9 : Int64 → Int32 → Option (Int64)) (hk9 : ∀ (v3 : Int64) (v5 : Int32), k9 v3 v5 = some o → ∀ (ls : Array Slot), lv_has ls 6 [(0, .ref z0), (1, .int p1), (2, .int p2), (3, .long v3), (5, .int v5)] → W p l e R_X6_laid s m args below meth c s.heap [] 0 0 (MQ below (vp_Sl (fun r => r = o)) args s 0 0 (fun _ => False)) (F0 m 9 ls [])) : ∀ (v5 : Int32) (t0 : Int64) (t1 : Int64), m_X6_laid_c45  k9 v5 t0 t1 = some o → ∀ (ls : Array Slot), lv_has ls 6 [(0, .ref z0), (1, .int p1), (2, .int p2), (5, .int v5)] → W p l e R_X6_laid s m args below meth c s.heap [] 0 0 (MQ below (vp_Sl (fun r => r = o)) args s 0 0 (fun _ => False)) (F0 m 45 ls [.long t0, .long t1]) := by
  have hx := hc.1
  have hb := hc.2.1
  have hown := hc.2.2.2.2.1
  have hts := hc.2.2.2.2.2.1
  intro v5 t0 t1 hf ls hl
  refine lv_lor hx hb dX6_laid_45 ?_
  refine lv_lstore_n (lv' := [(3, .long (t1 ||| t0)), (0, .ref z0), (1, .int p1), (2, .int p2), (5, .int v5)]) hx hb dX6_laid_46 rfl hl (by decide) rfl (fun ls hl => ?_)
  refine lv_iinc (v := (v5 + (1 : Int32))) (lv' := [(5, .int (v5 + (1 : Int32))), (3, .long (t1 ||| t0)), (0, .ref z0), (1, .int p1), (2, .int p2)]) hx hb dX6_laid_47 hl (k := 4) rfl rfl (by decide) rfl (fun ls hl => ?_)
  refine lv_goto (tgt := 9) hx hb dX6_laid_50 (by decide) ?_
  exact hk9 (t1 ||| t0) (v5 + (1 : Int32)) hf ls (lv_sub hl [2, 3, 4, 1, 0] rfl)
def m_X6_laid_c9 (o_holes : Int32) (o_power : Nat → Int32) (o_hole : Nat → Int32) (p1 : Int32) (p2 : Int32)  : Nat → Int64 → Int32 → Option (Int64)
  | 0, _, _ => none
  | n + 1, v3, v5 => (if o_holes ≤ v5 then some v3 else ((m_X6_digit o_power p1 v5).bind fun u2 => (if u2 = (p2 + (1 : Int32)) then (if okI v5 49 = true then (m_X6_laid_c45 (m_X6_laid_c9 o_holes o_power o_hole p1 p2  n) v5 (jshl (1 : Int64) (o_hole v5.toNatClampNeg)) v3) else none) else (m_X6_laid_c45 (m_X6_laid_c9 o_holes o_power o_hole p1 p2  n) v5 (0 : Int64) v3))))
set_option maxHeartbeats 4000000 in
set_option maxRecDepth 100000 in
theorem w_X6_laid_c9 {p : Program} {l : Launch} {e : Env} {s : State} {m : MethodId} {args : Array Value} {below : List Frame} {meth : Method} {c : Code} {D : va_G} {C : Nat → ClassId} {z0 : Nat} {z1 : Nat} {z2 : Nat} {o_n : Int32} {r_o_game : Nat} {o_all : Int32} {o_made : Int32} {o_own0 : Int64} {o_own1 : Int64} {r_o_near : Nat} {r_o_kept : Nat} {r_o_isKept : Nat} {r_o_threatOf : Nat} {r_o_threatSet : Nat} {o_threatMany : Int32} {r_o_text : Nat} {o_length : Int32} {r_o_far : Nat} {r_o_back : Nat} {o_holes : Int32} {r_o_isWon : Nat} {r_o_won : Nat} {r_o_lasts : Nat} {r_o_told : Nat} {o_tellings : Int32} {o_power : Nat → Int32} {o_hole : Nat → Int32} {p1 : Int32} {p2 : Int32} {o : Int64} (hc : Cx p s m args meth c yX6_laid cX6_laid 6 (some .long)) (hK : va_K D vwCl (TY C) s) (hP : va_P D vwCl [cX6 z0 o_n r_o_game o_all o_made o_own0 o_own1 r_o_near r_o_kept r_o_isKept r_o_threatOf r_o_threatSet o_threatMany r_o_text o_length r_o_far r_o_back z2 o_holes r_o_isWon r_o_won r_o_lasts z1 r_o_told o_tellings, aI C z1 10 o_power, aI C z2 49 o_hole] s.heap) : ∀ (n : Nat), ∀ (v3 : Int64) (v5 : Int32), m_X6_laid_c9 o_holes o_power o_hole p1 p2  n v3 v5 = some o → ∀ (ls : Array Slot), lv_has ls 6 [(0, .ref z0), (1, .int p1), (2, .int p2), (3, .long v3), (5, .int v5)] → W p l e R_X6_laid s m args below meth c s.heap [] 0 0 (MQ below (vp_Sl (fun r => r = o)) args s 0 0 (fun _ => False)) (F0 m 9 ls []) := by
  have hx := hc.1
  have hb := hc.2.1
  have hown := hc.2.2.2.2.1
  have hts := hc.2.2.2.2.2.1
  intro n
  induction n with
  | zero =>
    intro v3 v5 hf
    exact no_some hf
  | succ n ih =>
    intro v3 v5 hf ls hl
    refine lv_iload hx hb dX6_laid_9 (lv_at hl 4 rfl) ?_
    refine lv_aload_n hx hb dX6_laid_11 rfl (lv_at hl 0 rfl) ?_
    refine va_get (D := D) (ci := 6) (v := .int o_holes) (C := RX6) (T := TX6) (N := 24) hx hb hts inX6 hown hK hP 0 rfl rfl 17 (by decide) (hts _ q_671) (fun _ h9 => h9) rfl dX6_laid_12 ?_
    refine lv_icmp_ge (tgt := 53) hx hb dX6_laid_15 (by decide) (fun c1 => ?_) (fun c1 => ?_)
    · have hf := if_t hf c1
      refine lv_lload_n hx hb dX6_laid_53 rfl (lv_at hl 3 rfl) ?_
      exact rRl hc (Option.some.inj hf) dX6_laid_54
    · have hf := if_f hf c1
      refine lv_lload_n hx hb dX6_laid_18 rfl (lv_at hl 3 rfl) ?_
      refine lv_aload_n hx hb dX6_laid_19 rfl (lv_at hl 0 rfl) ?_
      refine lv_iload_n hx hb dX6_laid_20 rfl (lv_at hl 1 rfl) ?_
      refine lv_iload hx hb dX6_laid_21 (lv_at hl 4 rfl) ?_
      obtain ⟨u2, hu2, hf⟩ := bind_some hf
      refine rcVi (As := [.int p1, .int v5]) (rest := [.long v3]) hc k_X6_193 (c_X6_digit l D C z0 z1 o_n r_o_game o_all o_made o_own0 o_own1 r_o_near r_o_kept r_o_isKept r_o_threatOf r_o_threatSet o_threatMany r_o_text o_length r_o_far r_o_back z2 o_holes r_o_isWon r_o_won r_o_lasts r_o_told o_tellings o_power p1 v5  _ hu2) ⟨rfl, rfl, Nat.le_of_ble_eq_true rfl, Nat.le_of_ble_eq_true rfl⟩ (hP.sub [0, 1] rfl) hK (q0 := 0) rfl rfl rfl hl rfl rfl (Nat.le_of_ble_eq_true rfl) ⟨Nat.zero_le _, Nat.zero_le _⟩ dX6_laid_23 ?_
      refine lv_iload_n hx hb dX6_laid_26 rfl (lv_at hl 2 rfl) ?_
      refine lv_iconst (v := (1 : Int32)) hx hb dX6_laid_27 (by decide) ?_
      refine lv_iadd hx hb dX6_laid_28 ?_
      refine lv_icmp_ne (tgt := 44) hx hb dX6_laid_29 (by decide) (fun c3 => ?_) (fun c3 => ?_)
      · have hf := if_f hf c3
        refine lv_lconst (v := (0 : Int64)) hx hb dX6_laid_44 (by decide) ?_
        exact w_X6_laid_c45 hc hK hP (m_X6_laid_c9 o_holes o_power o_hole p1 p2  n) ih v5 (0 : Int64) v3 hf ls (lv_sub hl [0, 1, 2, 4] rfl)
      · have hf := if_t hf c3
        refine lv_lconst (v := (1 : Int64)) hx hb dX6_laid_32 (by decide) ?_
        refine lv_aload_n hx hb dX6_laid_33 rfl (lv_at hl 0 rfl) ?_
        refine va_get (D := D) (ci := 6) (v := .ref z2) (C := RX6) (T := TX6) (N := 24) hx hb hts inX6 hown hK hP 0 rfl rfl 16 (by decide) (hts _ q_670) (fun _ h9 => h9) rfl dX6_laid_34 ?_
        refine lv_iload hx hb dX6_laid_37 (lv_at hl 4 rfl) ?_
        obtain ⟨h4, hf⟩ := ok_t hf
        refine va_iald hx hb hK hP 2 0 rfl rfl (okI_in h4) dX6_laid_39 ?_
        refine lv_lshl (v := (jshl (1 : Int64) (o_hole v5.toNatClampNeg))) hx hb dX6_laid_40 rfl ?_
        refine lv_goto (tgt := 45) hx hb dX6_laid_41 (by decide) ?_
        exact w_X6_laid_c45 hc hK hP (m_X6_laid_c9 o_holes o_power o_hole p1 p2  n) ih v5 (jshl (1 : Int64) (o_hole v5.toNatClampNeg)) v3 hf ls (lv_sub hl [0, 1, 2, 4] rfl)
def m_X6_laid (o_own0 : Int64) (o_own1 : Int64) (o_holes : Int32) (o_power : Nat → Int32) (o_hole : Nat → Int32) (p1 : Int32) (p2 : Int32) : Option (Int64) := (m_X6_laid_c9 o_holes o_power o_hole p1 p2 FU (m_X6_own o_own0 o_own1 p2) (0 : Int32))
set_option maxHeartbeats 4000000 in
set_option maxRecDepth 100000 in
theorem c_X6_laid (l : Launch) (D : va_G) (C : Nat → ClassId) (z0 : Nat) (z1 : Nat) (z2 : Nat) (o_n : Int32) (r_o_game : Nat) (o_all : Int32) (o_made : Int32) (o_own0 : Int64) (o_own1 : Int64) (r_o_near : Nat) (r_o_kept : Nat) (r_o_isKept : Nat) (r_o_threatOf : Nat) (r_o_threatSet : Nat) (o_threatMany : Int32) (r_o_text : Nat) (o_length : Int32) (r_o_far : Nat) (r_o_back : Nat) (o_holes : Int32) (r_o_isWon : Nat) (r_o_won : Nat) (r_o_lasts : Nat) (r_o_told : Nat) (o_tellings : Int32) (o_power : Nat → Int32) (o_hole : Nat → Int32) (p1 : Int32) (p2 : Int32) (o : Int64) (hf : m_X6_laid o_own0 o_own1 o_holes o_power o_hole p1 p2 = some o) : Met l yX6_laid (wl yX6_laid cX6_laid 6 (some .long)) R_X6_laid (PR [.ref z0, .int p1, .int p2] D C [cX6 z0 o_n r_o_game o_all o_made o_own0 o_own1 r_o_near r_o_kept r_o_isKept r_o_threatOf r_o_threatSet o_threatMany r_o_text o_length r_o_far r_o_back z2 o_holes r_o_isWon r_o_won r_o_lasts z1 r_o_told o_tellings, aI C z1 10 o_power, aI C z2 49 o_hole]) (vp_Sl (fun r => r = o)) 0 0 (fun _ => False) := by
  refine Met_ofC (by decide) ?_
  intro p e s m args below meth c hc hv
  obtain ⟨rfl, hP, hK⟩ := hv
  have hx := hc.1
  have hb := hc.2.1
  have hown := hc.2.2.2.2.1
  have hts := hc.2.2.2.2.2.1
  refine en_F rfl (fun ls hl => ?_)
  have hl : lv_has ls 6 [(0, .ref z0), (1, .int p1), (2, .int p2)] := hl
  refine lv_aload_n hx hb dX6_laid_0 rfl (lv_at hl 0 rfl) ?_
  refine lv_iload_n hx hb dX6_laid_1 rfl (lv_at hl 2 rfl) ?_
  refine rcVl (As := [.int p2]) (rest := []) hc k_X6_139 (c_X6_own l D C z0 o_n r_o_game o_all o_made o_own0 o_own1 r_o_near r_o_kept r_o_isKept r_o_threatOf r_o_threatSet o_threatMany r_o_text o_length r_o_far r_o_back z2 o_holes r_o_isWon r_o_won r_o_lasts z1 r_o_told o_tellings p2  _ rfl) ⟨rfl, rfl, Nat.le_of_ble_eq_true rfl, Nat.le_of_ble_eq_true rfl⟩ (hP.sub [0] rfl) hK (q0 := 0) rfl rfl rfl hl rfl rfl (Nat.le_of_ble_eq_true rfl) ⟨Nat.zero_le _, Nat.zero_le _⟩ dX6_laid_2 ?_
  refine lv_lstore_n (lv' := [(3, .long (m_X6_own o_own0 o_own1 p2)), (0, .ref z0), (1, .int p1), (2, .int p2)]) hx hb dX6_laid_5 rfl hl (by decide) rfl (fun ls hl => ?_)
  refine lv_iconst (v := (0 : Int32)) hx hb dX6_laid_6 (by decide) ?_
  refine lv_istore (lv' := [(5, .int (0 : Int32)), (3, .long (m_X6_own o_own0 o_own1 p2)), (0, .ref z0), (1, .int p1), (2, .int p2)]) hx hb dX6_laid_7 hl (by decide) rfl (fun ls hl => ?_)
  exact w_X6_laid_c9 hc hK hP  FU (m_X6_own o_own0 o_own1 p2) (0 : Int32) hf ls (lv_sub hl [2, 3, 4, 1, 0] rfl)
abbrev R_X6_laidMany : Room := { frames := 1, cells := 0, slots := 0, locals := 22 }
def m_X6_laidMany_c27  (k4 : Int32 → Int32 → Option (Int32)) (v3 : Int32) (t0 : Int32) (t1 : Int32) : Option (Int32) := (k4 (t1 + t0) (v3 + (1 : Int32)))
set_option maxHeartbeats 4000000 in
set_option maxRecDepth 100000 in
theorem w_X6_laidMany_c27 {p : Program} {l : Launch} {e : Env} {s : State} {m : MethodId} {args : Array Value} {below : List Frame} {meth : Method} {c : Code} {D : va_G} {C : Nat → ClassId} {z0 : Nat} {z1 : Nat} {o_n : Int32} {r_o_game : Nat} {o_all : Int32} {o_made : Int32} {o_own0 : Int64} {o_own1 : Int64} {r_o_near : Nat} {r_o_kept : Nat} {r_o_isKept : Nat} {r_o_threatOf : Nat} {r_o_threatSet : Nat} {o_threatMany : Int32} {r_o_text : Nat} {o_length : Int32} {r_o_far : Nat} {r_o_back : Nat} {r_o_hole : Nat} {o_holes : Int32} {r_o_isWon : Nat} {r_o_won : Nat} {r_o_lasts : Nat} {r_o_told : Nat} {o_tellings : Int32} {o_power : Nat → Int32} {p1 : Int32} {o : Int32} (hc : Cx p s m args meth c yX6_laidMany cX6_laidMany 4 (some .int)) (hK : va_K D vwCl (TY C) s) (hP : va_P D vwCl [cX6 z0 o_n r_o_game o_all o_made o_own0 o_own1 r_o_near r_o_kept r_o_isKept r_o_threatOf r_o_threatSet o_threatMany r_o_text o_length r_o_far r_o_back r_o_hole o_holes r_o_isWon r_o_won r_o_lasts z1 r_o_told o_tellings, aI C z1 10 o_power] s.heap) (k4 : Int32 → Int32 → Option (Int32)) (hk4 : ∀ (v2 : Int32) (v3 : Int32), k4 v2 v3 = some o → ∀ (ls : Array Slot), lv_has ls 4 [(0, .ref z0), (1, .int p1), (2, .int v2), (3, .int v3)] → W p l e R_X6_laidMany s m args below meth c s.heap [] 0 0 (MQ below (vp_Si (fun r => r = o)) args s 0 0 (fun _ => False)) (F0 m 4 ls [])) : ∀ (v3 : Int32) (t0 : Int32) (t1 : Int32), m_X6_laidMany_c27  k4 v3 t0 t1 = some o → ∀ (ls : Array Slot), lv_has ls 4 [(0, .ref z0), (1, .int p1), (3, .int v3)] → W p l e R_X6_laidMany s m args below meth c s.heap [] 0 0 (MQ below (vp_Si (fun r => r = o)) args s 0 0 (fun _ => False)) (F0 m 27 ls [.int t0, .int t1]) := by
  have hx := hc.1
  have hb := hc.2.1
  have hown := hc.2.2.2.2.1
  have hts := hc.2.2.2.2.2.1
  intro v3 t0 t1 hf ls hl
  refine lv_iadd hx hb dX6_laidMany_27 ?_
  refine lv_istore_n (lv' := [(2, .int (t1 + t0)), (0, .ref z0), (1, .int p1), (3, .int v3)]) hx hb dX6_laidMany_28 rfl hl (by decide) rfl (fun ls hl => ?_)
  refine lv_iinc (v := (v3 + (1 : Int32))) (lv' := [(3, .int (v3 + (1 : Int32))), (2, .int (t1 + t0)), (0, .ref z0), (1, .int p1)]) hx hb dX6_laidMany_29 hl (k := 3) rfl rfl (by decide) rfl (fun ls hl => ?_)
  refine lv_goto (tgt := 4) hx hb dX6_laidMany_32 (by decide) ?_
  exact hk4 (t1 + t0) (v3 + (1 : Int32)) hf ls (lv_sub hl [2, 3, 1, 0] rfl)
def m_X6_laidMany_c4 (o_holes : Int32) (o_power : Nat → Int32) (p1 : Int32)  : Nat → Int32 → Int32 → Option (Int32)
  | 0, _, _ => none
  | n + 1, v2, v3 => (if o_holes ≤ v3 then some v2 else ((m_X6_digit o_power p1 v3).bind fun u2 => (if u2 ≤ 0 then (m_X6_laidMany_c27 (m_X6_laidMany_c4 o_holes o_power p1  n) v3 (0 : Int32) v2) else (m_X6_laidMany_c27 (m_X6_laidMany_c4 o_holes o_power p1  n) v3 (1 : Int32) v2))))
set_option maxHeartbeats 4000000 in
set_option maxRecDepth 100000 in
theorem w_X6_laidMany_c4 {p : Program} {l : Launch} {e : Env} {s : State} {m : MethodId} {args : Array Value} {below : List Frame} {meth : Method} {c : Code} {D : va_G} {C : Nat → ClassId} {z0 : Nat} {z1 : Nat} {o_n : Int32} {r_o_game : Nat} {o_all : Int32} {o_made : Int32} {o_own0 : Int64} {o_own1 : Int64} {r_o_near : Nat} {r_o_kept : Nat} {r_o_isKept : Nat} {r_o_threatOf : Nat} {r_o_threatSet : Nat} {o_threatMany : Int32} {r_o_text : Nat} {o_length : Int32} {r_o_far : Nat} {r_o_back : Nat} {r_o_hole : Nat} {o_holes : Int32} {r_o_isWon : Nat} {r_o_won : Nat} {r_o_lasts : Nat} {r_o_told : Nat} {o_tellings : Int32} {o_power : Nat → Int32} {p1 : Int32} {o : Int32} (hc : Cx p s m args meth c yX6_laidMany cX6_laidMany 4 (some .int)) (hK : va_K D vwCl (TY C) s) (hP : va_P D vwCl [cX6 z0 o_n r_o_game o_all o_made o_own0 o_own1 r_o_near r_o_kept r_o_isKept r_o_threatOf r_o_threatSet o_threatMany r_o_text o_length r_o_far r_o_back r_o_hole o_holes r_o_isWon r_o_won r_o_lasts z1 r_o_told o_tellings, aI C z1 10 o_power] s.heap) : ∀ (n : Nat), ∀ (v2 : Int32) (v3 : Int32), m_X6_laidMany_c4 o_holes o_power p1  n v2 v3 = some o → ∀ (ls : Array Slot), lv_has ls 4 [(0, .ref z0), (1, .int p1), (2, .int v2), (3, .int v3)] → W p l e R_X6_laidMany s m args below meth c s.heap [] 0 0 (MQ below (vp_Si (fun r => r = o)) args s 0 0 (fun _ => False)) (F0 m 4 ls []) := by
  have hx := hc.1
  have hb := hc.2.1
  have hown := hc.2.2.2.2.1
  have hts := hc.2.2.2.2.2.1
  intro n
  induction n with
  | zero =>
    intro v2 v3 hf
    exact no_some hf
  | succ n ih =>
    intro v2 v3 hf ls hl
    refine lv_iload_n hx hb dX6_laidMany_4 rfl (lv_at hl 3 rfl) ?_
    refine lv_aload_n hx hb dX6_laidMany_5 rfl (lv_at hl 0 rfl) ?_
    refine va_get (D := D) (ci := 6) (v := .int o_holes) (C := RX6) (T := TX6) (N := 24) hx hb hts inX6 hown hK hP 0 rfl rfl 17 (by decide) (hts _ q_671) (fun _ h9 => h9) rfl dX6_laidMany_6 ?_
    refine lv_icmp_ge (tgt := 35) hx hb dX6_laidMany_9 (by decide) (fun c1 => ?_) (fun c1 => ?_)
    · have hf := if_t hf c1
      refine lv_iload_n hx hb dX6_laidMany_35 rfl (lv_at hl 2 rfl) ?_
      exact rRi hc (Option.some.inj hf) dX6_laidMany_36
    · have hf := if_f hf c1
      refine lv_iload_n hx hb dX6_laidMany_12 rfl (lv_at hl 2 rfl) ?_
      refine lv_aload_n hx hb dX6_laidMany_13 rfl (lv_at hl 0 rfl) ?_
      refine lv_iload_n hx hb dX6_laidMany_14 rfl (lv_at hl 1 rfl) ?_
      refine lv_iload_n hx hb dX6_laidMany_15 rfl (lv_at hl 3 rfl) ?_
      obtain ⟨u2, hu2, hf⟩ := bind_some hf
      refine rcVi (As := [.int p1, .int v3]) (rest := [.int v2]) hc k_X6_193 (c_X6_digit l D C z0 z1 o_n r_o_game o_all o_made o_own0 o_own1 r_o_near r_o_kept r_o_isKept r_o_threatOf r_o_threatSet o_threatMany r_o_text o_length r_o_far r_o_back r_o_hole o_holes r_o_isWon r_o_won r_o_lasts r_o_told o_tellings o_power p1 v3  _ hu2) ⟨rfl, rfl, Nat.le_of_ble_eq_true rfl, Nat.le_of_ble_eq_true rfl⟩ (hP.sub [0, 1] rfl) hK (q0 := 0) rfl rfl rfl hl rfl rfl (Nat.le_of_ble_eq_true rfl) ⟨Nat.zero_le _, Nat.zero_le _⟩ dX6_laidMany_16 ?_
      refine lv_if_le (tgt := 26) hx hb dX6_laidMany_19 (by decide) (fun c3 => ?_) (fun c3 => ?_)
      · have hf := if_t hf c3
        refine lv_iconst (v := (0 : Int32)) hx hb dX6_laidMany_26 (by decide) ?_
        exact w_X6_laidMany_c27 hc hK hP (m_X6_laidMany_c4 o_holes o_power p1  n) ih v3 (0 : Int32) v2 hf ls (lv_sub hl [0, 1, 3] rfl)
      · have hf := if_f hf c3
        refine lv_iconst (v := (1 : Int32)) hx hb dX6_laidMany_22 (by decide) ?_
        refine lv_goto (tgt := 27) hx hb dX6_laidMany_23 (by decide) ?_
        exact w_X6_laidMany_c27 hc hK hP (m_X6_laidMany_c4 o_holes o_power p1  n) ih v3 (1 : Int32) v2 hf ls (lv_sub hl [0, 1, 3] rfl)
def m_X6_laidMany (o_holes : Int32) (o_power : Nat → Int32) (p1 : Int32) : Option (Int32) := (m_X6_laidMany_c4 o_holes o_power p1 FU (0 : Int32) (0 : Int32))
set_option maxHeartbeats 4000000 in
set_option maxRecDepth 100000 in
theorem c_X6_laidMany (l : Launch) (D : va_G) (C : Nat → ClassId) (z0 : Nat) (z1 : Nat) (o_n : Int32) (r_o_game : Nat) (o_all : Int32) (o_made : Int32) (o_own0 : Int64) (o_own1 : Int64) (r_o_near : Nat) (r_o_kept : Nat) (r_o_isKept : Nat) (r_o_threatOf : Nat) (r_o_threatSet : Nat) (o_threatMany : Int32) (r_o_text : Nat) (o_length : Int32) (r_o_far : Nat) (r_o_back : Nat) (r_o_hole : Nat) (o_holes : Int32) (r_o_isWon : Nat) (r_o_won : Nat) (r_o_lasts : Nat) (r_o_told : Nat) (o_tellings : Int32) (o_power : Nat → Int32) (p1 : Int32) (o : Int32) (hf : m_X6_laidMany o_holes o_power p1 = some o) : Met l yX6_laidMany (wl yX6_laidMany cX6_laidMany 4 (some .int)) R_X6_laidMany (PR [.ref z0, .int p1] D C [cX6 z0 o_n r_o_game o_all o_made o_own0 o_own1 r_o_near r_o_kept r_o_isKept r_o_threatOf r_o_threatSet o_threatMany r_o_text o_length r_o_far r_o_back r_o_hole o_holes r_o_isWon r_o_won r_o_lasts z1 r_o_told o_tellings, aI C z1 10 o_power]) (vp_Si (fun r => r = o)) 0 0 (fun _ => False) := by
  refine Met_ofC (by decide) ?_
  intro p e s m args below meth c hc hv
  obtain ⟨rfl, hP, hK⟩ := hv
  have hx := hc.1
  have hb := hc.2.1
  have hown := hc.2.2.2.2.1
  have hts := hc.2.2.2.2.2.1
  refine en_F rfl (fun ls hl => ?_)
  have hl : lv_has ls 4 [(0, .ref z0), (1, .int p1)] := hl
  refine lv_iconst (v := (0 : Int32)) hx hb dX6_laidMany_0 (by decide) ?_
  refine lv_istore_n (lv' := [(2, .int (0 : Int32)), (0, .ref z0), (1, .int p1)]) hx hb dX6_laidMany_1 rfl hl (by decide) rfl (fun ls hl => ?_)
  refine lv_iconst (v := (0 : Int32)) hx hb dX6_laidMany_2 (by decide) ?_
  refine lv_istore_n (lv' := [(3, .int (0 : Int32)), (2, .int (0 : Int32)), (0, .ref z0), (1, .int p1)]) hx hb dX6_laidMany_3 rfl hl (by decide) rfl (fun ls hl => ?_)
  exact w_X6_laidMany_c4 hc hK hP  FU (0 : Int32) (0 : Int32) hf ls (lv_sub hl [2, 3, 1, 0] rfl)
abbrev R_X6_decides : Room := { frames := 1, cells := 0, slots := 0, locals := 22 }
def m_X6_decides_c122 (p1 : Int32)  (v3 : Int32) (v4 : Int32) (t0 : Int32) (t1 : Int32) (o_won : Nat → Int32) (o_lasts : Nat → Int32) : Option ((Nat → Int32) × (Nat → Int32)) := (if okI t1 19683 = true then (if v3 < 0 then (if okI p1 19683 = true then some ((upd o_won t1.toNatClampNeg t0), (upd o_lasts p1.toNatClampNeg v4)) else none) else (if okI p1 19683 = true then some ((upd o_won t1.toNatClampNeg t0), (upd o_lasts p1.toNatClampNeg v3)) else none)) else none)
set_option maxHeartbeats 4000000 in
set_option maxRecDepth 100000 in
theorem w_X6_decides_c122 {p : Program} {l : Launch} {e : Env} {s : State} {m : MethodId} {args : Array Value} {below : List Frame} {meth : Method} {c : Code} {D : va_G} {C : Nat → ClassId} {A : Nat → Prop} {a0 : Nat} {a1 : Nat} {a2 : Nat} {a3 : Nat} {a4 : Nat} {a5 : Nat} {a6 : Nat} {a7 : Nat} {a8 : Nat} {a9 : Nat} {a10 : Nat} {a11 : Nat} {a12 : Nat} {a13 : Nat} {a14 : Nat} {a15 : Nat} {o_n : Int32} {o_all : Int32} {o_made : Int32} {o_own0 : Int64} {o_own1 : Int64} {o_threatMany : Int32} {o_length : Int32} {o_holes : Int32} {o_tellings : Int32} {o_game : Nat → Int32} {o_near : Nat → Int64} {o_kept : Nat → Int32} {o_isKept : Nat → Int32} {o_threatOf : Nat → Int32} {o_threatSet : Nat → Int64} {o_text : Nat → Int32} {o_far : Nat → Int32} {o_back : Nat → Int32} {o_hole : Nat → Int32} {o_isWon : Nat → Int32} {o_power : Nat → Int32} {o_told : Nat → Int32} {p1 : Int32} {o : (Nat → Int32) × (Nat → Int32)} (hc : Cx p s m args meth c yX6_decides cX6_decides 8 none) (hK : va_K D vwCl (TY C) s) (hA : ∀ q : Nat, s.heap.size ≤ q → A q) (hO : va_P D vwCl ([] : va_W) s.heap) (hN : ∀ q ∈ ([] : va_W), ¬ A q.1) : ∀ (v3 : Int32) (v4 : Int32) (t0 : Int32) (t1 : Int32) (o_won : Nat → Int32) (o_lasts : Nat → Int32), m_X6_decides_c122 p1  v3 v4 t0 t1 o_won o_lasts = some o → ∀ (H : Heap) (locs : List Loc), va_P D vwCl (wX6 C a0 a1 a2 a3 a4 a5 a6 a7 a8 a9 a10 a11 a12 a13 a14 a15 o_n o_all o_made o_own0 o_own1 o_threatMany o_length o_holes o_tellings o_game o_near o_kept o_isKept o_threatOf o_threatSet o_text o_far o_back o_hole o_isWon o_won o_lasts o_power o_told) H → va_D A (wX6 C a0 a1 a2 a3 a4 a5 a6 a7 a8 a9 a10 a11 a12 a13 a14 a15 o_n o_all o_made o_own0 o_own1 o_threatMany o_length o_holes o_tellings o_game o_near o_kept o_isKept o_threatOf o_threatSet o_text o_far o_back o_hole o_isWon o_won o_lasts o_power o_told) → va_S A s.heap H locs → ∀ (ls : Array Slot), lv_has ls 8 [(0, .ref a0), (1, .int p1), (3, .int v3), (4, .int v4)] → W p l e R_X6_decides s m args below meth c H locs 0 0 (MQ below (QWv D (wX6 C a0 a1 a2 a3 a4 a5 a6 a7 a8 a9 a10 a11 a12 a13 a14 a15 o_n o_all o_made o_own0 o_own1 o_threatMany o_length o_holes o_tellings o_game o_near o_kept o_isKept o_threatOf o_threatSet o_text o_far o_back o_hole o_isWon o.1 o.2 o_power o_told) A) args s 0 0 A) (F0 m 122 ls [.int t0, .int t1, .ref a12]) := by
  have hx := hc.1
  have hb := hc.2.1
  have hown := hc.2.2.2.2.1
  have hts := hc.2.2.2.2.2.1
  intro v3 v4 t0 t1 o_won o_lasts hf H locs hP hD hS ls hl
  obtain ⟨h3, hf⟩ := ok_t hf
  refine va_iast hx hb hK hP hD hS 12 0 rfl rfl (okI_in h3) dX6_decides_122 (fun H locs hP hD hS => ?_)
  have hP : va_P D vwCl (wX6 C a0 a1 a2 a3 a4 a5 a6 a7 a8 a9 a10 a11 a12 a13 a14 a15 o_n o_all o_made o_own0 o_own1 o_threatMany o_length o_holes o_tellings o_game o_near o_kept o_isKept o_threatOf o_threatSet o_text o_far o_back o_hole o_isWon (upd o_won t1.toNatClampNeg t0) o_lasts o_power o_told) H := hP
  have hD : va_D A (wX6 C a0 a1 a2 a3 a4 a5 a6 a7 a8 a9 a10 a11 a12 a13 a14 a15 o_n o_all o_made o_own0 o_own1 o_threatMany o_length o_holes o_tellings o_game o_near o_kept o_isKept o_threatOf o_threatSet o_text o_far o_back o_hole o_isWon (upd o_won t1.toNatClampNeg t0) o_lasts o_power o_told) := hD
  refine lv_aload_n hx hb dX6_decides_123 rfl (lv_at hl 0 rfl) ?_
  refine va_get (D := D) (ci := 6) (v := .ref a13) (C := RX6) (T := TX6) (N := 24) hx hb hts inX6 hown hK hP 0 rfl rfl 20 (by decide) (hts _ q_674) (fun _ h9 => h9) rfl dX6_decides_124 ?_
  refine lv_iload_n hx hb dX6_decides_127 rfl (lv_at hl 1 rfl) ?_
  refine lv_iload_n hx hb dX6_decides_128 rfl (lv_at hl 2 rfl) ?_
  refine lv_if_lt (tgt := 136) hx hb dX6_decides_129 (by decide) (fun c4 => ?_) (fun c4 => ?_)
  · have hf := if_t hf c4
    refine lv_iload hx hb dX6_decides_136 (lv_at hl 3 rfl) ?_
    obtain ⟨h5, hf⟩ := ok_t hf
    refine va_iast hx hb hK hP hD hS 13 0 rfl rfl (okI_in h5) dX6_decides_138 (fun H locs hP hD hS => ?_)
    have hP : va_P D vwCl (wX6 C a0 a1 a2 a3 a4 a5 a6 a7 a8 a9 a10 a11 a12 a13 a14 a15 o_n o_all o_made o_own0 o_own1 o_threatMany o_length o_holes o_tellings o_game o_near o_kept o_isKept o_threatOf o_threatSet o_text o_far o_back o_hole o_isWon (upd o_won t1.toNatClampNeg t0) (upd o_lasts p1.toNatClampNeg v4) o_power o_told) H := hP
    have hD : va_D A (wX6 C a0 a1 a2 a3 a4 a5 a6 a7 a8 a9 a10 a11 a12 a13 a14 a15 o_n o_all o_made o_own0 o_own1 o_threatMany o_length o_holes o_tellings o_game o_near o_kept o_isKept o_threatOf o_threatSet o_text o_far o_back o_hole o_isWon (upd o_won t1.toNatClampNeg t0) (upd o_lasts p1.toNatClampNeg v4) o_power o_told) := hD
    have hf := Option.some.inj hf
    subst hf
    exact rWv hc hP hD hS dX6_decides_139
  · have hf := if_f hf c4
    refine lv_iload_n hx hb dX6_decides_132 rfl (lv_at hl 2 rfl) ?_
    refine lv_goto (tgt := 138) hx hb dX6_decides_133 (by decide) ?_
    obtain ⟨h6, hf⟩ := ok_t hf
    refine va_iast hx hb hK hP hD hS 13 0 rfl rfl (okI_in h6) dX6_decides_138 (fun H locs hP hD hS => ?_)
    have hP : va_P D vwCl (wX6 C a0 a1 a2 a3 a4 a5 a6 a7 a8 a9 a10 a11 a12 a13 a14 a15 o_n o_all o_made o_own0 o_own1 o_threatMany o_length o_holes o_tellings o_game o_near o_kept o_isKept o_threatOf o_threatSet o_text o_far o_back o_hole o_isWon (upd o_won t1.toNatClampNeg t0) (upd o_lasts p1.toNatClampNeg v3) o_power o_told) H := hP
    have hD : va_D A (wX6 C a0 a1 a2 a3 a4 a5 a6 a7 a8 a9 a10 a11 a12 a13 a14 a15 o_n o_all o_made o_own0 o_own1 o_threatMany o_length o_holes o_tellings o_game o_near o_kept o_isKept o_threatOf o_threatSet o_text o_far o_back o_hole o_isWon (upd o_won t1.toNatClampNeg t0) (upd o_lasts p1.toNatClampNeg v3) o_power o_told) := hD
    have hf := Option.some.inj hf
    subst hf
    exact rWv hc hP hD hS dX6_decides_139
def m_X6_decides_c100  (k8 : Int32 → Int32 → Int32 → (Nat → Int32) → (Nat → Int32) → Option ((Nat → Int32) × (Nat → Int32))) (v3 : Int32) (v4 : Int32) (v5 : Int32) (o_won : Nat → Int32) (o_lasts : Nat → Int32) : Option ((Nat → Int32) × (Nat → Int32)) := (k8 v3 v4 (v5 + (1 : Int32)) o_won o_lasts)
set_option maxHeartbeats 4000000 in
set_option maxRecDepth 100000 in
theorem w_X6_decides_c100 {p : Program} {l : Launch} {e : Env} {s : State} {m : MethodId} {args : Array Value} {below : List Frame} {meth : Method} {c : Code} {D : va_G} {C : Nat → ClassId} {A : Nat → Prop} {a0 : Nat} {a1 : Nat} {a2 : Nat} {a3 : Nat} {a4 : Nat} {a5 : Nat} {a6 : Nat} {a7 : Nat} {a8 : Nat} {a9 : Nat} {a10 : Nat} {a11 : Nat} {a12 : Nat} {a13 : Nat} {a14 : Nat} {a15 : Nat} {o_n : Int32} {o_all : Int32} {o_made : Int32} {o_own0 : Int64} {o_own1 : Int64} {o_threatMany : Int32} {o_length : Int32} {o_holes : Int32} {o_tellings : Int32} {o_game : Nat → Int32} {o_near : Nat → Int64} {o_kept : Nat → Int32} {o_isKept : Nat → Int32} {o_threatOf : Nat → Int32} {o_threatSet : Nat → Int64} {o_text : Nat → Int32} {o_far : Nat → Int32} {o_back : Nat → Int32} {o_hole : Nat → Int32} {o_isWon : Nat → Int32} {o_power : Nat → Int32} {o_told : Nat → Int32} {p1 : Int32} {p2 : Int32} {o : (Nat → Int32) × (Nat → Int32)} (hc : Cx p s m args meth c yX6_decides cX6_decides 8 none) (hK : va_K D vwCl (TY C) s) (hA : ∀ q : Nat, s.heap.size ≤ q → A q) (hO : va_P D vwCl ([] : va_W) s.heap) (hN : ∀ q ∈ ([] : va_W), ¬ A q.1) (k8 : Int32 → Int32 → Int32 → (Nat → Int32) → (Nat → Int32) → Option ((Nat → Int32) × (Nat → Int32))) (hk8 : ∀ (v3 : Int32) (v4 : Int32) (v5 : Int32) (o_won : Nat → Int32) (o_lasts : Nat → Int32), k8 v3 v4 v5 o_won o_lasts = some o → ∀ (H : Heap) (locs : List Loc), va_P D vwCl (wX6 C a0 a1 a2 a3 a4 a5 a6 a7 a8 a9 a10 a11 a12 a13 a14 a15 o_n o_all o_made o_own0 o_own1 o_threatMany o_length o_holes o_tellings o_game o_near o_kept o_isKept o_threatOf o_threatSet o_text o_far o_back o_hole o_isWon o_won o_lasts o_power o_told) H → va_D A (wX6 C a0 a1 a2 a3 a4 a5 a6 a7 a8 a9 a10 a11 a12 a13 a14 a15 o_n o_all o_made o_own0 o_own1 o_threatMany o_length o_holes o_tellings o_game o_near o_kept o_isKept o_threatOf o_threatSet o_text o_far o_back o_hole o_isWon o_won o_lasts o_power o_told) → va_S A s.heap H locs → ∀ (ls : Array Slot), lv_has ls 8 [(0, .ref a0), (1, .int p1), (2, .int p2), (3, .int v3), (4, .int v4), (5, .int v5)] → W p l e R_X6_decides s m args below meth c H locs 0 0 (MQ below (QWv D (wX6 C a0 a1 a2 a3 a4 a5 a6 a7 a8 a9 a10 a11 a12 a13 a14 a15 o_n o_all o_made o_own0 o_own1 o_threatMany o_length o_holes o_tellings o_game o_near o_kept o_isKept o_threatOf o_threatSet o_text o_far o_back o_hole o_isWon o.1 o.2 o_power o_told) A) args s 0 0 A) (F0 m 8 ls [])) : ∀ (v3 : Int32) (v4 : Int32) (v5 : Int32) (o_won : Nat → Int32) (o_lasts : Nat → Int32), m_X6_decides_c100  k8 v3 v4 v5 o_won o_lasts = some o → ∀ (H : Heap) (locs : List Loc), va_P D vwCl (wX6 C a0 a1 a2 a3 a4 a5 a6 a7 a8 a9 a10 a11 a12 a13 a14 a15 o_n o_all o_made o_own0 o_own1 o_threatMany o_length o_holes o_tellings o_game o_near o_kept o_isKept o_threatOf o_threatSet o_text o_far o_back o_hole o_isWon o_won o_lasts o_power o_told) H → va_D A (wX6 C a0 a1 a2 a3 a4 a5 a6 a7 a8 a9 a10 a11 a12 a13 a14 a15 o_n o_all o_made o_own0 o_own1 o_threatMany o_length o_holes o_tellings o_game o_near o_kept o_isKept o_threatOf o_threatSet o_text o_far o_back o_hole o_isWon o_won o_lasts o_power o_told) → va_S A s.heap H locs → ∀ (ls : Array Slot), lv_has ls 8 [(0, .ref a0), (1, .int p1), (2, .int p2), (3, .int v3), (4, .int v4), (5, .int v5)] → W p l e R_X6_decides s m args below meth c H locs 0 0 (MQ below (QWv D (wX6 C a0 a1 a2 a3 a4 a5 a6 a7 a8 a9 a10 a11 a12 a13 a14 a15 o_n o_all o_made o_own0 o_own1 o_threatMany o_length o_holes o_tellings o_game o_near o_kept o_isKept o_threatOf o_threatSet o_text o_far o_back o_hole o_isWon o.1 o.2 o_power o_told) A) args s 0 0 A) (F0 m 100 ls []) := by
  have hx := hc.1
  have hb := hc.2.1
  have hown := hc.2.2.2.2.1
  have hts := hc.2.2.2.2.2.1
  intro v3 v4 v5 o_won o_lasts hf H locs hP hD hS ls hl
  refine lv_iinc (v := (v5 + (1 : Int32))) (lv' := [(5, .int (v5 + (1 : Int32))), (0, .ref a0), (1, .int p1), (2, .int p2), (3, .int v3), (4, .int v4)]) hx hb dX6_decides_100 hl (k := 5) rfl rfl (by decide) rfl (fun ls hl => ?_)
  refine lv_goto (tgt := 8) hx hb dX6_decides_103 (by decide) ?_
  exact hk8 v3 v4 (v5 + (1 : Int32)) o_won o_lasts hf _ _ hP hD hS ls (lv_sub hl [1, 2, 3, 4, 5, 0] rfl)
def m_X6_decides_c98  (k8 : Int32 → Int32 → Int32 → (Nat → Int32) → (Nat → Int32) → Option ((Nat → Int32) × (Nat → Int32))) (v3 : Int32) (v5 : Int32) (t0 : Int32) (o_won : Nat → Int32) (o_lasts : Nat → Int32) : Option ((Nat → Int32) × (Nat → Int32)) := (m_X6_decides_c100 k8 v3 t0 v5 o_won o_lasts)
set_option maxHeartbeats 4000000 in
set_option maxRecDepth 100000 in
theorem w_X6_decides_c98 {p : Program} {l : Launch} {e : Env} {s : State} {m : MethodId} {args : Array Value} {below : List Frame} {meth : Method} {c : Code} {D : va_G} {C : Nat → ClassId} {A : Nat → Prop} {a0 : Nat} {a1 : Nat} {a2 : Nat} {a3 : Nat} {a4 : Nat} {a5 : Nat} {a6 : Nat} {a7 : Nat} {a8 : Nat} {a9 : Nat} {a10 : Nat} {a11 : Nat} {a12 : Nat} {a13 : Nat} {a14 : Nat} {a15 : Nat} {o_n : Int32} {o_all : Int32} {o_made : Int32} {o_own0 : Int64} {o_own1 : Int64} {o_threatMany : Int32} {o_length : Int32} {o_holes : Int32} {o_tellings : Int32} {o_game : Nat → Int32} {o_near : Nat → Int64} {o_kept : Nat → Int32} {o_isKept : Nat → Int32} {o_threatOf : Nat → Int32} {o_threatSet : Nat → Int64} {o_text : Nat → Int32} {o_far : Nat → Int32} {o_back : Nat → Int32} {o_hole : Nat → Int32} {o_isWon : Nat → Int32} {o_power : Nat → Int32} {o_told : Nat → Int32} {p1 : Int32} {p2 : Int32} {o : (Nat → Int32) × (Nat → Int32)} (hc : Cx p s m args meth c yX6_decides cX6_decides 8 none) (hK : va_K D vwCl (TY C) s) (hA : ∀ q : Nat, s.heap.size ≤ q → A q) (hO : va_P D vwCl ([] : va_W) s.heap) (hN : ∀ q ∈ ([] : va_W), ¬ A q.1) (k8 : Int32 → Int32 → Int32 → (Nat → Int32) → (Nat → Int32) → Option ((Nat → Int32) × (Nat → Int32))) (hk8 : ∀ (v3 : Int32) (v4 : Int32) (v5 : Int32) (o_won : Nat → Int32) (o_lasts : Nat → Int32), k8 v3 v4 v5 o_won o_lasts = some o → ∀ (H : Heap) (locs : List Loc), va_P D vwCl (wX6 C a0 a1 a2 a3 a4 a5 a6 a7 a8 a9 a10 a11 a12 a13 a14 a15 o_n o_all o_made o_own0 o_own1 o_threatMany o_length o_holes o_tellings o_game o_near o_kept o_isKept o_threatOf o_threatSet o_text o_far o_back o_hole o_isWon o_won o_lasts o_power o_told) H → va_D A (wX6 C a0 a1 a2 a3 a4 a5 a6 a7 a8 a9 a10 a11 a12 a13 a14 a15 o_n o_all o_made o_own0 o_own1 o_threatMany o_length o_holes o_tellings o_game o_near o_kept o_isKept o_threatOf o_threatSet o_text o_far o_back o_hole o_isWon o_won o_lasts o_power o_told) → va_S A s.heap H locs → ∀ (ls : Array Slot), lv_has ls 8 [(0, .ref a0), (1, .int p1), (2, .int p2), (3, .int v3), (4, .int v4), (5, .int v5)] → W p l e R_X6_decides s m args below meth c H locs 0 0 (MQ below (QWv D (wX6 C a0 a1 a2 a3 a4 a5 a6 a7 a8 a9 a10 a11 a12 a13 a14 a15 o_n o_all o_made o_own0 o_own1 o_threatMany o_length o_holes o_tellings o_game o_near o_kept o_isKept o_threatOf o_threatSet o_text o_far o_back o_hole o_isWon o.1 o.2 o_power o_told) A) args s 0 0 A) (F0 m 8 ls [])) : ∀ (v3 : Int32) (v5 : Int32) (t0 : Int32) (o_won : Nat → Int32) (o_lasts : Nat → Int32), m_X6_decides_c98  k8 v3 v5 t0 o_won o_lasts = some o → ∀ (H : Heap) (locs : List Loc), va_P D vwCl (wX6 C a0 a1 a2 a3 a4 a5 a6 a7 a8 a9 a10 a11 a12 a13 a14 a15 o_n o_all o_made o_own0 o_own1 o_threatMany o_length o_holes o_tellings o_game o_near o_kept o_isKept o_threatOf o_threatSet o_text o_far o_back o_hole o_isWon o_won o_lasts o_power o_told) H → va_D A (wX6 C a0 a1 a2 a3 a4 a5 a6 a7 a8 a9 a10 a11 a12 a13 a14 a15 o_n o_all o_made o_own0 o_own1 o_threatMany o_length o_holes o_tellings o_game o_near o_kept o_isKept o_threatOf o_threatSet o_text o_far o_back o_hole o_isWon o_won o_lasts o_power o_told) → va_S A s.heap H locs → ∀ (ls : Array Slot), lv_has ls 8 [(0, .ref a0), (1, .int p1), (2, .int p2), (3, .int v3), (5, .int v5)] → W p l e R_X6_decides s m args below meth c H locs 0 0 (MQ below (QWv D (wX6 C a0 a1 a2 a3 a4 a5 a6 a7 a8 a9 a10 a11 a12 a13 a14 a15 o_n o_all o_made o_own0 o_own1 o_threatMany o_length o_holes o_tellings o_game o_near o_kept o_isKept o_threatOf o_threatSet o_text o_far o_back o_hole o_isWon o.1 o.2 o_power o_told) A) args s 0 0 A) (F0 m 98 ls [.int t0]) := by
  have hx := hc.1
  have hb := hc.2.1
  have hown := hc.2.2.2.2.1
  have hts := hc.2.2.2.2.2.1
  intro v3 v5 t0 o_won o_lasts hf H locs hP hD hS ls hl
  refine lv_istore (lv' := [(4, .int t0), (0, .ref a0), (1, .int p1), (2, .int p2), (3, .int v3), (5, .int v5)]) hx hb dX6_decides_98 hl (by decide) rfl (fun ls hl => ?_)
  exact w_X6_decides_c100 hc hK hA hO hN k8 hk8 v3 t0 v5 o_won o_lasts hf _ _ hP hD hS ls (lv_sub hl [1, 2, 3, 4, 0, 5] rfl)
def m_X6_decides_c80  (k8 : Int32 → Int32 → Int32 → (Nat → Int32) → (Nat → Int32) → Option ((Nat → Int32) × (Nat → Int32))) (v4 : Int32) (v5 : Int32) (t0 : Int32) (o_won : Nat → Int32) (o_lasts : Nat → Int32) : Option ((Nat → Int32) × (Nat → Int32)) := (m_X6_decides_c100 k8 t0 v4 v5 o_won o_lasts)
set_option maxHeartbeats 4000000 in
set_option maxRecDepth 100000 in
theorem w_X6_decides_c80 {p : Program} {l : Launch} {e : Env} {s : State} {m : MethodId} {args : Array Value} {below : List Frame} {meth : Method} {c : Code} {D : va_G} {C : Nat → ClassId} {A : Nat → Prop} {a0 : Nat} {a1 : Nat} {a2 : Nat} {a3 : Nat} {a4 : Nat} {a5 : Nat} {a6 : Nat} {a7 : Nat} {a8 : Nat} {a9 : Nat} {a10 : Nat} {a11 : Nat} {a12 : Nat} {a13 : Nat} {a14 : Nat} {a15 : Nat} {o_n : Int32} {o_all : Int32} {o_made : Int32} {o_own0 : Int64} {o_own1 : Int64} {o_threatMany : Int32} {o_length : Int32} {o_holes : Int32} {o_tellings : Int32} {o_game : Nat → Int32} {o_near : Nat → Int64} {o_kept : Nat → Int32} {o_isKept : Nat → Int32} {o_threatOf : Nat → Int32} {o_threatSet : Nat → Int64} {o_text : Nat → Int32} {o_far : Nat → Int32} {o_back : Nat → Int32} {o_hole : Nat → Int32} {o_isWon : Nat → Int32} {o_power : Nat → Int32} {o_told : Nat → Int32} {p1 : Int32} {p2 : Int32} {o : (Nat → Int32) × (Nat → Int32)} (hc : Cx p s m args meth c yX6_decides cX6_decides 8 none) (hK : va_K D vwCl (TY C) s) (hA : ∀ q : Nat, s.heap.size ≤ q → A q) (hO : va_P D vwCl ([] : va_W) s.heap) (hN : ∀ q ∈ ([] : va_W), ¬ A q.1) (k8 : Int32 → Int32 → Int32 → (Nat → Int32) → (Nat → Int32) → Option ((Nat → Int32) × (Nat → Int32))) (hk8 : ∀ (v3 : Int32) (v4 : Int32) (v5 : Int32) (o_won : Nat → Int32) (o_lasts : Nat → Int32), k8 v3 v4 v5 o_won o_lasts = some o → ∀ (H : Heap) (locs : List Loc), va_P D vwCl (wX6 C a0 a1 a2 a3 a4 a5 a6 a7 a8 a9 a10 a11 a12 a13 a14 a15 o_n o_all o_made o_own0 o_own1 o_threatMany o_length o_holes o_tellings o_game o_near o_kept o_isKept o_threatOf o_threatSet o_text o_far o_back o_hole o_isWon o_won o_lasts o_power o_told) H → va_D A (wX6 C a0 a1 a2 a3 a4 a5 a6 a7 a8 a9 a10 a11 a12 a13 a14 a15 o_n o_all o_made o_own0 o_own1 o_threatMany o_length o_holes o_tellings o_game o_near o_kept o_isKept o_threatOf o_threatSet o_text o_far o_back o_hole o_isWon o_won o_lasts o_power o_told) → va_S A s.heap H locs → ∀ (ls : Array Slot), lv_has ls 8 [(0, .ref a0), (1, .int p1), (2, .int p2), (3, .int v3), (4, .int v4), (5, .int v5)] → W p l e R_X6_decides s m args below meth c H locs 0 0 (MQ below (QWv D (wX6 C a0 a1 a2 a3 a4 a5 a6 a7 a8 a9 a10 a11 a12 a13 a14 a15 o_n o_all o_made o_own0 o_own1 o_threatMany o_length o_holes o_tellings o_game o_near o_kept o_isKept o_threatOf o_threatSet o_text o_far o_back o_hole o_isWon o.1 o.2 o_power o_told) A) args s 0 0 A) (F0 m 8 ls [])) : ∀ (v4 : Int32) (v5 : Int32) (t0 : Int32) (o_won : Nat → Int32) (o_lasts : Nat → Int32), m_X6_decides_c80  k8 v4 v5 t0 o_won o_lasts = some o → ∀ (H : Heap) (locs : List Loc), va_P D vwCl (wX6 C a0 a1 a2 a3 a4 a5 a6 a7 a8 a9 a10 a11 a12 a13 a14 a15 o_n o_all o_made o_own0 o_own1 o_threatMany o_length o_holes o_tellings o_game o_near o_kept o_isKept o_threatOf o_threatSet o_text o_far o_back o_hole o_isWon o_won o_lasts o_power o_told) H → va_D A (wX6 C a0 a1 a2 a3 a4 a5 a6 a7 a8 a9 a10 a11 a12 a13 a14 a15 o_n o_all o_made o_own0 o_own1 o_threatMany o_length o_holes o_tellings o_game o_near o_kept o_isKept o_threatOf o_threatSet o_text o_far o_back o_hole o_isWon o_won o_lasts o_power o_told) → va_S A s.heap H locs → ∀ (ls : Array Slot), lv_has ls 8 [(0, .ref a0), (1, .int p1), (2, .int p2), (4, .int v4), (5, .int v5)] → W p l e R_X6_decides s m args below meth c H locs 0 0 (MQ below (QWv D (wX6 C a0 a1 a2 a3 a4 a5 a6 a7 a8 a9 a10 a11 a12 a13 a14 a15 o_n o_all o_made o_own0 o_own1 o_threatMany o_length o_holes o_tellings o_game o_near o_kept o_isKept o_threatOf o_threatSet o_text o_far o_back o_hole o_isWon o.1 o.2 o_power o_told) A) args s 0 0 A) (F0 m 80 ls [.int t0]) := by
  have hx := hc.1
  have hb := hc.2.1
  have hown := hc.2.2.2.2.1
  have hts := hc.2.2.2.2.2.1
  intro v4 v5 t0 o_won o_lasts hf H locs hP hD hS ls hl
  refine lv_istore_n (lv' := [(3, .int t0), (0, .ref a0), (1, .int p1), (2, .int p2), (4, .int v4), (5, .int v5)]) hx hb dX6_decides_80 rfl hl (by decide) rfl (fun ls hl => ?_)
  refine lv_goto (tgt := 100) hx hb dX6_decides_81 (by decide) ?_
  exact w_X6_decides_c100 hc hK hA hO hN k8 hk8 t0 v4 v5 o_won o_lasts hf _ _ hP hD hS ls (lv_sub hl [1, 2, 3, 0, 4, 5] rfl)
def m_X6_decides_c74  (k8 : Int32 → Int32 → Int32 → (Nat → Int32) → (Nat → Int32) → Option ((Nat → Int32) × (Nat → Int32))) (v4 : Int32) (v5 : Int32) (v7 : Int32) (o_won : Nat → Int32) (o_lasts : Nat → Int32) : Option ((Nat → Int32) × (Nat → Int32)) := (m_X6_decides_c80 k8 v4 v5 v7 o_won o_lasts)
set_option maxHeartbeats 4000000 in
set_option maxRecDepth 100000 in
theorem w_X6_decides_c74 {p : Program} {l : Launch} {e : Env} {s : State} {m : MethodId} {args : Array Value} {below : List Frame} {meth : Method} {c : Code} {D : va_G} {C : Nat → ClassId} {A : Nat → Prop} {a0 : Nat} {a1 : Nat} {a2 : Nat} {a3 : Nat} {a4 : Nat} {a5 : Nat} {a6 : Nat} {a7 : Nat} {a8 : Nat} {a9 : Nat} {a10 : Nat} {a11 : Nat} {a12 : Nat} {a13 : Nat} {a14 : Nat} {a15 : Nat} {o_n : Int32} {o_all : Int32} {o_made : Int32} {o_own0 : Int64} {o_own1 : Int64} {o_threatMany : Int32} {o_length : Int32} {o_holes : Int32} {o_tellings : Int32} {o_game : Nat → Int32} {o_near : Nat → Int64} {o_kept : Nat → Int32} {o_isKept : Nat → Int32} {o_threatOf : Nat → Int32} {o_threatSet : Nat → Int64} {o_text : Nat → Int32} {o_far : Nat → Int32} {o_back : Nat → Int32} {o_hole : Nat → Int32} {o_isWon : Nat → Int32} {o_power : Nat → Int32} {o_told : Nat → Int32} {p1 : Int32} {p2 : Int32} {o : (Nat → Int32) × (Nat → Int32)} (hc : Cx p s m args meth c yX6_decides cX6_decides 8 none) (hK : va_K D vwCl (TY C) s) (hA : ∀ q : Nat, s.heap.size ≤ q → A q) (hO : va_P D vwCl ([] : va_W) s.heap) (hN : ∀ q ∈ ([] : va_W), ¬ A q.1) (k8 : Int32 → Int32 → Int32 → (Nat → Int32) → (Nat → Int32) → Option ((Nat → Int32) × (Nat → Int32))) (hk8 : ∀ (v3 : Int32) (v4 : Int32) (v5 : Int32) (o_won : Nat → Int32) (o_lasts : Nat → Int32), k8 v3 v4 v5 o_won o_lasts = some o → ∀ (H : Heap) (locs : List Loc), va_P D vwCl (wX6 C a0 a1 a2 a3 a4 a5 a6 a7 a8 a9 a10 a11 a12 a13 a14 a15 o_n o_all o_made o_own0 o_own1 o_threatMany o_length o_holes o_tellings o_game o_near o_kept o_isKept o_threatOf o_threatSet o_text o_far o_back o_hole o_isWon o_won o_lasts o_power o_told) H → va_D A (wX6 C a0 a1 a2 a3 a4 a5 a6 a7 a8 a9 a10 a11 a12 a13 a14 a15 o_n o_all o_made o_own0 o_own1 o_threatMany o_length o_holes o_tellings o_game o_near o_kept o_isKept o_threatOf o_threatSet o_text o_far o_back o_hole o_isWon o_won o_lasts o_power o_told) → va_S A s.heap H locs → ∀ (ls : Array Slot), lv_has ls 8 [(0, .ref a0), (1, .int p1), (2, .int p2), (3, .int v3), (4, .int v4), (5, .int v5)] → W p l e R_X6_decides s m args below meth c H locs 0 0 (MQ below (QWv D (wX6 C a0 a1 a2 a3 a4 a5 a6 a7 a8 a9 a10 a11 a12 a13 a14 a15 o_n o_all o_made o_own0 o_own1 o_threatMany o_length o_holes o_tellings o_game o_near o_kept o_isKept o_threatOf o_threatSet o_text o_far o_back o_hole o_isWon o.1 o.2 o_power o_told) A) args s 0 0 A) (F0 m 8 ls [])) : ∀ (v4 : Int32) (v5 : Int32) (v7 : Int32) (o_won : Nat → Int32) (o_lasts : Nat → Int32), m_X6_decides_c74  k8 v4 v5 v7 o_won o_lasts = some o → ∀ (H : Heap) (locs : List Loc), va_P D vwCl (wX6 C a0 a1 a2 a3 a4 a5 a6 a7 a8 a9 a10 a11 a12 a13 a14 a15 o_n o_all o_made o_own0 o_own1 o_threatMany o_length o_holes o_tellings o_game o_near o_kept o_isKept o_threatOf o_threatSet o_text o_far o_back o_hole o_isWon o_won o_lasts o_power o_told) H → va_D A (wX6 C a0 a1 a2 a3 a4 a5 a6 a7 a8 a9 a10 a11 a12 a13 a14 a15 o_n o_all o_made o_own0 o_own1 o_threatMany o_length o_holes o_tellings o_game o_near o_kept o_isKept o_threatOf o_threatSet o_text o_far o_back o_hole o_isWon o_won o_lasts o_power o_told) → va_S A s.heap H locs → ∀ (ls : Array Slot), lv_has ls 8 [(0, .ref a0), (1, .int p1), (2, .int p2), (4, .int v4), (5, .int v5), (7, .int v7)] → W p l e R_X6_decides s m args below meth c H locs 0 0 (MQ below (QWv D (wX6 C a0 a1 a2 a3 a4 a5 a6 a7 a8 a9 a10 a11 a12 a13 a14 a15 o_n o_all o_made o_own0 o_own1 o_threatMany o_length o_holes o_tellings o_game o_near o_kept o_isKept o_threatOf o_threatSet o_text o_far o_back o_hole o_isWon o.1 o.2 o_power o_told) A) args s 0 0 A) (F0 m 74 ls []) := by
  have hx := hc.1
  have hb := hc.2.1
  have hown := hc.2.2.2.2.1
  have hts := hc.2.2.2.2.2.1
  intro v4 v5 v7 o_won o_lasts hf H locs hP hD hS ls hl
  refine lv_iload hx hb dX6_decides_74 (lv_at hl 5 rfl) ?_
  refine lv_goto (tgt := 80) hx hb dX6_decides_76 (by decide) ?_
  exact w_X6_decides_c80 hc hK hA hO hN k8 hk8 v4 v5 v7 o_won o_lasts hf _ _ hP hD hS ls (lv_sub hl [0, 1, 2, 3, 4] rfl)
def m_X6_decides_c8 (o_holes : Int32) (o_power : Nat → Int32) (p1 : Int32) (p2 : Int32)  : Nat → Int32 → Int32 → Int32 → (Nat → Int32) → (Nat → Int32) → Option ((Nat → Int32) × (Nat → Int32))
  | 0, _, _, _, _, _ => none
  | n + 1, v3, v4, v5, o_won, o_lasts => (if o_holes ≤ v5 then (if v3 < 0 then (m_X6_decides_c122 p1 v3 v4 ((1 : Int32) - p2) p1 o_won o_lasts) else (m_X6_decides_c122 p1 v3 v4 p2 p1 o_won o_lasts)) else ((m_X6_digit o_power p1 v5).bind fun u7 => (if u7 = 0 then (if okI v5 10 = true then (if okI (p1 + ((p2 + (1 : Int32)) * (o_power v5.toNatClampNeg))) 19683 = true then (jlet ((o_lasts (p1 + ((p2 + (1 : Int32)) * (o_power v5.toNatClampNeg))).toNatClampNeg) + (1 : Int32)) fun x11 => (if okI (p1 + ((p2 + (1 : Int32)) * (o_power v5.toNatClampNeg))) 19683 = true then (if (o_won (p1 + ((p2 + (1 : Int32)) * (o_power v5.toNatClampNeg))).toNatClampNeg) = p2 then (if v3 < 0 then (m_X6_decides_c74 (m_X6_decides_c8 o_holes o_power p1 p2  n) v4 v5 x11 o_won o_lasts) else (if v3 ≤ x11 then (m_X6_decides_c80 (m_X6_decides_c8 o_holes o_power p1 p2  n) v4 v5 v3 o_won o_lasts) else (m_X6_decides_c74 (m_X6_decides_c8 o_holes o_power p1 p2  n) v4 v5 x11 o_won o_lasts))) else (if x11 ≤ v4 then (m_X6_decides_c98 (m_X6_decides_c8 o_holes o_power p1 p2  n) v3 v5 v4 o_won o_lasts) else (m_X6_decides_c98 (m_X6_decides_c8 o_holes o_power p1 p2  n) v3 v5 x11 o_won o_lasts))) else none)) else none) else none) else (m_X6_decides_c100 (m_X6_decides_c8 o_holes o_power p1 p2  n) v3 v4 v5 o_won o_lasts))))
set_option maxHeartbeats 4000000 in
set_option maxRecDepth 100000 in
theorem w_X6_decides_c8 {p : Program} {l : Launch} {e : Env} {s : State} {m : MethodId} {args : Array Value} {below : List Frame} {meth : Method} {c : Code} {D : va_G} {C : Nat → ClassId} {A : Nat → Prop} {a0 : Nat} {a1 : Nat} {a2 : Nat} {a3 : Nat} {a4 : Nat} {a5 : Nat} {a6 : Nat} {a7 : Nat} {a8 : Nat} {a9 : Nat} {a10 : Nat} {a11 : Nat} {a12 : Nat} {a13 : Nat} {a14 : Nat} {a15 : Nat} {o_n : Int32} {o_all : Int32} {o_made : Int32} {o_own0 : Int64} {o_own1 : Int64} {o_threatMany : Int32} {o_length : Int32} {o_holes : Int32} {o_tellings : Int32} {o_game : Nat → Int32} {o_near : Nat → Int64} {o_kept : Nat → Int32} {o_isKept : Nat → Int32} {o_threatOf : Nat → Int32} {o_threatSet : Nat → Int64} {o_text : Nat → Int32} {o_far : Nat → Int32} {o_back : Nat → Int32} {o_hole : Nat → Int32} {o_isWon : Nat → Int32} {o_power : Nat → Int32} {o_told : Nat → Int32} {p1 : Int32} {p2 : Int32} {o : (Nat → Int32) × (Nat → Int32)} (hc : Cx p s m args meth c yX6_decides cX6_decides 8 none) (hK : va_K D vwCl (TY C) s) (hA : ∀ q : Nat, s.heap.size ≤ q → A q) (hO : va_P D vwCl ([] : va_W) s.heap) (hN : ∀ q ∈ ([] : va_W), ¬ A q.1) : ∀ (n : Nat), ∀ (v3 : Int32) (v4 : Int32) (v5 : Int32) (o_won : Nat → Int32) (o_lasts : Nat → Int32), m_X6_decides_c8 o_holes o_power p1 p2  n v3 v4 v5 o_won o_lasts = some o → ∀ (H : Heap) (locs : List Loc), va_P D vwCl (wX6 C a0 a1 a2 a3 a4 a5 a6 a7 a8 a9 a10 a11 a12 a13 a14 a15 o_n o_all o_made o_own0 o_own1 o_threatMany o_length o_holes o_tellings o_game o_near o_kept o_isKept o_threatOf o_threatSet o_text o_far o_back o_hole o_isWon o_won o_lasts o_power o_told) H → va_D A (wX6 C a0 a1 a2 a3 a4 a5 a6 a7 a8 a9 a10 a11 a12 a13 a14 a15 o_n o_all o_made o_own0 o_own1 o_threatMany o_length o_holes o_tellings o_game o_near o_kept o_isKept o_threatOf o_threatSet o_text o_far o_back o_hole o_isWon o_won o_lasts o_power o_told) → va_S A s.heap H locs → ∀ (ls : Array Slot), lv_has ls 8 [(0, .ref a0), (1, .int p1), (2, .int p2), (3, .int v3), (4, .int v4), (5, .int v5)] → W p l e R_X6_decides s m args below meth c H locs 0 0 (MQ below (QWv D (wX6 C a0 a1 a2 a3 a4 a5 a6 a7 a8 a9 a10 a11 a12 a13 a14 a15 o_n o_all o_made o_own0 o_own1 o_threatMany o_length o_holes o_tellings o_game o_near o_kept o_isKept o_threatOf o_threatSet o_text o_far o_back o_hole o_isWon o.1 o.2 o_power o_told) A) args s 0 0 A) (F0 m 8 ls []) := by
  have hx := hc.1
  have hb := hc.2.1
  have hown := hc.2.2.2.2.1
  have hts := hc.2.2.2.2.2.1
  intro n
  induction n with
  | zero =>
    intro v3 v4 v5 o_won o_lasts hf
    exact no_some hf
  | succ n ih =>
    intro v3 v4 v5 o_won o_lasts hf H locs hP hD hS ls hl
    refine lv_iload hx hb dX6_decides_8 (lv_at hl 5 rfl) ?_
    refine lv_aload_n hx hb dX6_decides_10 rfl (lv_at hl 0 rfl) ?_
    refine va_get (D := D) (ci := 6) (v := .int o_holes) (C := RX6) (T := TX6) (N := 24) hx hb hts inX6 hown hK hP 0 rfl rfl 17 (by decide) (hts _ q_671) (fun _ h9 => h9) rfl dX6_decides_11 ?_
    refine lv_icmp_ge (tgt := 106) hx hb dX6_decides_14 (by decide) (fun c1 => ?_) (fun c1 => ?_)
    · have hf := if_t hf c1
      refine lv_aload_n hx hb dX6_decides_106 rfl (lv_at hl 0 rfl) ?_
      refine va_get (D := D) (ci := 6) (v := .ref a12) (C := RX6) (T := TX6) (N := 24) hx hb hts inX6 hown hK hP 0 rfl rfl 19 (by decide) (hts _ q_673) (fun _ h9 => h9) rfl dX6_decides_107 ?_
      refine lv_iload_n hx hb dX6_decides_110 rfl (lv_at hl 1 rfl) ?_
      refine lv_iload_n hx hb dX6_decides_111 rfl (lv_at hl 3 rfl) ?_
      refine lv_if_lt (tgt := 119) hx hb dX6_decides_112 (by decide) (fun c2 => ?_) (fun c2 => ?_)
      · have hf := if_t hf c2
        refine lv_iconst (v := (1 : Int32)) hx hb dX6_decides_119 (by decide) ?_
        refine lv_iload_n hx hb dX6_decides_120 rfl (lv_at hl 2 rfl) ?_
        refine lv_isub hx hb dX6_decides_121 ?_
        exact w_X6_decides_c122 hc hK hA hO hN  v3 v4 ((1 : Int32) - p2) p1 o_won o_lasts hf _ _ hP hD hS ls (lv_sub hl [0, 1, 3, 4] rfl)
      · have hf := if_f hf c2
        refine lv_iload_n hx hb dX6_decides_115 rfl (lv_at hl 2 rfl) ?_
        refine lv_goto (tgt := 122) hx hb dX6_decides_116 (by decide) ?_
        exact w_X6_decides_c122 hc hK hA hO hN  v3 v4 p2 p1 o_won o_lasts hf _ _ hP hD hS ls (lv_sub hl [0, 1, 3, 4] rfl)
    · have hf := if_f hf c1
      refine lv_aload_n hx hb dX6_decides_17 rfl (lv_at hl 0 rfl) ?_
      refine lv_iload_n hx hb dX6_decides_18 rfl (lv_at hl 1 rfl) ?_
      refine lv_iload hx hb dX6_decides_19 (lv_at hl 5 rfl) ?_
      obtain ⟨u7, hu7, hf⟩ := bind_some hf
      refine rcVi (As := [.int p1, .int v5]) (rest := []) hc k_X6_193 (c_X6_digit l D C a0 a14 o_n a1 o_all o_made o_own0 o_own1 a2 a3 a4 a5 a6 o_threatMany a7 o_length a8 a9 a10 o_holes a11 a12 a13 a15 o_tellings o_power p1 v5  _ hu7) ⟨rfl, rfl, Nat.le_of_ble_eq_true rfl, Nat.le_of_ble_eq_true rfl⟩ (hP.sub [0, 14] rfl) hK (q0 := 0) rfl rfl rfl hl rfl rfl (Nat.le_of_ble_eq_true rfl) ⟨Nat.zero_le _, Nat.zero_le _⟩ dX6_decides_21 ?_
      refine lv_if_ne (tgt := 100) hx hb dX6_decides_24 (by decide) (fun c8 => ?_) (fun c8 => ?_)
      · have hf := if_f hf c8
        exact w_X6_decides_c100 hc hK hA hO hN (m_X6_decides_c8 o_holes o_power p1 p2  n) ih v3 v4 v5 o_won o_lasts hf _ _ hP hD hS ls (lv_sub hl [0, 1, 2, 3, 4, 5] rfl)
      · have hf := if_t hf c8
        refine lv_iload_n hx hb dX6_decides_27 rfl (lv_at hl 1 rfl) ?_
        refine lv_iload_n hx hb dX6_decides_28 rfl (lv_at hl 2 rfl) ?_
        refine lv_iconst (v := (1 : Int32)) hx hb dX6_decides_29 (by decide) ?_
        refine lv_iadd hx hb dX6_decides_30 ?_
        refine lv_aload_n hx hb dX6_decides_31 rfl (lv_at hl 0 rfl) ?_
        refine va_get (D := D) (ci := 6) (v := .ref a14) (C := RX6) (T := TX6) (N := 24) hx hb hts inX6 hown hK hP 0 rfl rfl 21 (by decide) (hts _ q_675) (fun _ h9 => h9) rfl dX6_decides_32 ?_
        refine lv_iload hx hb dX6_decides_35 (lv_at hl 5 rfl) ?_
        obtain ⟨h9, hf⟩ := ok_t hf
        refine va_iald hx hb hK hP 14 0 rfl rfl (okI_in h9) dX6_decides_37 ?_
        refine lv_imul hx hb dX6_decides_38 ?_
        refine lv_iadd hx hb dX6_decides_39 ?_
        refine lv_istore (lv' := [(6, .int (p1 + ((p2 + (1 : Int32)) * (o_power v5.toNatClampNeg)))), (0, .ref a0), (1, .int p1), (2, .int p2), (3, .int v3), (4, .int v4), (5, .int v5)]) hx hb dX6_decides_40 hl (by decide) rfl (fun ls hl => ?_)
        refine lv_aload_n hx hb dX6_decides_42 rfl (lv_at hl 1 rfl) ?_
        refine va_get (D := D) (ci := 6) (v := .ref a13) (C := RX6) (T := TX6) (N := 24) hx hb hts inX6 hown hK hP 0 rfl rfl 20 (by decide) (hts _ q_674) (fun _ h9 => h9) rfl dX6_decides_43 ?_
        refine lv_iload hx hb dX6_decides_46 (lv_at hl 0 rfl) ?_
        obtain ⟨h10, hf⟩ := ok_t hf
        refine va_iald hx hb hK hP 13 0 rfl rfl (okI_in h10) dX6_decides_48 ?_
        refine lv_iconst (v := (1 : Int32)) hx hb dX6_decides_49 (by decide) ?_
        refine lv_iadd hx hb dX6_decides_50 ?_
        refine lv_topi (fun x11 ex11 => ?_)
        have hf := jlet_t hf ex11
        refine lv_istore (lv' := [(7, .int x11), (6, .int (p1 + ((p2 + (1 : Int32)) * (o_power v5.toNatClampNeg)))), (0, .ref a0), (1, .int p1), (2, .int p2), (3, .int v3), (4, .int v4), (5, .int v5)]) hx hb dX6_decides_51 hl (by decide) rfl (fun ls hl => ?_)
        refine lv_aload_n hx hb dX6_decides_53 rfl (lv_at hl 2 rfl) ?_
        refine va_get (D := D) (ci := 6) (v := .ref a12) (C := RX6) (T := TX6) (N := 24) hx hb hts inX6 hown hK hP 0 rfl rfl 19 (by decide) (hts _ q_673) (fun _ h9 => h9) rfl dX6_decides_54 ?_
        refine lv_iload hx hb dX6_decides_57 (lv_at hl 1 rfl) ?_
        obtain ⟨h12, hf⟩ := ok_t hf
        refine va_iald hx hb hK hP 12 0 rfl rfl (okI_in h12) dX6_decides_59 ?_
        refine lv_iload_n hx hb dX6_decides_60 rfl (lv_at hl 4 rfl) ?_
        refine lv_icmp_ne (tgt := 84) hx hb dX6_decides_61 (by decide) (fun c13 => ?_) (fun c13 => ?_)
        · have hf := if_f hf c13
          refine lv_iload hx hb dX6_decides_84 (lv_at hl 0 rfl) ?_
          refine lv_iload hx hb dX6_decides_86 (lv_at hl 6 rfl) ?_
          refine lv_icmp_le (tgt := 96) hx hb dX6_decides_88 (by decide) (fun c14 => ?_) (fun c14 => ?_)
          · have hf := if_t hf c14
            refine lv_iload hx hb dX6_decides_96 (lv_at hl 6 rfl) ?_
            exact w_X6_decides_c98 hc hK hA hO hN (m_X6_decides_c8 o_holes o_power p1 p2  n) ih v3 v5 v4 o_won o_lasts hf _ _ hP hD hS ls (lv_sub hl [2, 3, 4, 5, 7] rfl)
          · have hf := if_f hf c14
            refine lv_iload hx hb dX6_decides_91 (lv_at hl 0 rfl) ?_
            refine lv_goto (tgt := 98) hx hb dX6_decides_93 (by decide) ?_
            exact w_X6_decides_c98 hc hK hA hO hN (m_X6_decides_c8 o_holes o_power p1 p2  n) ih v3 v5 x11 o_won o_lasts hf _ _ hP hD hS ls (lv_sub hl [2, 3, 4, 5, 7] rfl)
        · have hf := if_t hf c13
          refine lv_iload_n hx hb dX6_decides_64 rfl (lv_at hl 5 rfl) ?_
          refine lv_if_lt (tgt := 74) hx hb dX6_decides_65 (by decide) (fun c15 => ?_) (fun c15 => ?_)
          · have hf := if_t hf c15
            exact w_X6_decides_c74 hc hK hA hO hN (m_X6_decides_c8 o_holes o_power p1 p2  n) ih v4 v5 x11 o_won o_lasts hf _ _ hP hD hS ls (lv_sub hl [2, 3, 4, 6, 7, 0] rfl)
          · have hf := if_f hf c15
            refine lv_iload hx hb dX6_decides_68 (lv_at hl 0 rfl) ?_
            refine lv_iload_n hx hb dX6_decides_70 rfl (lv_at hl 5 rfl) ?_
            refine lv_icmp_ge (tgt := 79) hx hb dX6_decides_71 (by decide) (fun c16 => ?_) (fun c16 => ?_)
            · have hf := if_t hf c16
              refine lv_iload_n hx hb dX6_decides_79 rfl (lv_at hl 5 rfl) ?_
              exact w_X6_decides_c80 hc hK hA hO hN (m_X6_decides_c8 o_holes o_power p1 p2  n) ih v4 v5 v3 o_won o_lasts hf _ _ hP hD hS ls (lv_sub hl [2, 3, 4, 6, 7] rfl)
            · have hf := if_f hf c16
              exact w_X6_decides_c74 hc hK hA hO hN (m_X6_decides_c8 o_holes o_power p1 p2  n) ih v4 v5 x11 o_won o_lasts hf _ _ hP hD hS ls (lv_sub hl [2, 3, 4, 6, 7, 0] rfl)
def m_X6_decides (o_holes : Int32) (o_won : Nat → Int32) (o_lasts : Nat → Int32) (o_power : Nat → Int32) (p1 : Int32) (p2 : Int32) : Option ((Nat → Int32) × (Nat → Int32)) := (m_X6_decides_c8 o_holes o_power p1 p2 FU (-1 : Int32) (-1 : Int32) (0 : Int32) o_won o_lasts)
set_option maxHeartbeats 4000000 in
set_option maxRecDepth 100000 in
theorem c_X6_decides (l : Launch) (D : va_G) (C : Nat → ClassId) (sz : Nat) (a0 : Nat) (a1 : Nat) (a2 : Nat) (a3 : Nat) (a4 : Nat) (a5 : Nat) (a6 : Nat) (a7 : Nat) (a8 : Nat) (a9 : Nat) (a10 : Nat) (a11 : Nat) (a12 : Nat) (a13 : Nat) (a14 : Nat) (a15 : Nat) (o_n : Int32) (o_all : Int32) (o_made : Int32) (o_own0 : Int64) (o_own1 : Int64) (o_threatMany : Int32) (o_length : Int32) (o_holes : Int32) (o_tellings : Int32) (o_game : Nat → Int32) (o_near : Nat → Int64) (o_kept : Nat → Int32) (o_isKept : Nat → Int32) (o_threatOf : Nat → Int32) (o_threatSet : Nat → Int64) (o_text : Nat → Int32) (o_far : Nat → Int32) (o_back : Nat → Int32) (o_hole : Nat → Int32) (o_isWon : Nat → Int32) (o_won : Nat → Int32) (o_lasts : Nat → Int32) (o_power : Nat → Int32) (o_told : Nat → Int32) (p1 : Int32) (p2 : Int32) (o : (Nat → Int32) × (Nat → Int32)) (hf : m_X6_decides o_holes o_won o_lasts o_power p1 p2 = some o) : Met l yX6_decides (wl yX6_decides cX6_decides 8 none) R_X6_decides (PW [.ref a0, .int p1, .int p2] D C sz (wX6 C a0 a1 a2 a3 a4 a5 a6 a7 a8 a9 a10 a11 a12 a13 a14 a15 o_n o_all o_made o_own0 o_own1 o_threatMany o_length o_holes o_tellings o_game o_near o_kept o_isKept o_threatOf o_threatSet o_text o_far o_back o_hole o_isWon o_won o_lasts o_power o_told) ([] : va_W)) (QWv D (wX6 C a0 a1 a2 a3 a4 a5 a6 a7 a8 a9 a10 a11 a12 a13 a14 a15 o_n o_all o_made o_own0 o_own1 o_threatMany o_length o_holes o_tellings o_game o_near o_kept o_isKept o_threatOf o_threatSet o_text o_far o_back o_hole o_isWon o.1 o.2 o_power o_told) (va_A (wX6 C a0 a1 a2 a3 a4 a5 a6 a7 a8 a9 a10 a11 a12 a13 a14 a15 o_n o_all o_made o_own0 o_own1 o_threatMany o_length o_holes o_tellings o_game o_near o_kept o_isKept o_threatOf o_threatSet o_text o_far o_back o_hole o_isWon o_won o_lasts o_power o_told) sz)) 0 0 (va_A (wX6 C a0 a1 a2 a3 a4 a5 a6 a7 a8 a9 a10 a11 a12 a13 a14 a15 o_n o_all o_made o_own0 o_own1 o_threatMany o_length o_holes o_tellings o_game o_near o_kept o_isKept o_threatOf o_threatSet o_text o_far o_back o_hole o_isWon o_won o_lasts o_power o_told) sz) := by
  refine Met_ofC (by decide) ?_
  intro p e s m args below meth c hc hv
  obtain ⟨rfl, hsz, hP, hK, hD0, hO, hN0⟩ := hv
  subst hsz
  have hD := hD0.self (sz := s.heap.size)
  have hN : ∀ q ∈ ([] : va_W), ¬ va_A (wX6 C a0 a1 a2 a3 a4 a5 a6 a7 a8 a9 a10 a11 a12 a13 a14 a15 o_n o_all o_made o_own0 o_own1 o_threatMany o_length o_holes o_tellings o_game o_near o_kept o_isKept o_threatOf o_threatSet o_text o_far o_back o_hole o_isWon o_won o_lasts o_power o_told) s.heap.size q.1 := hN0
  generalize hAe : va_A (wX6 C a0 a1 a2 a3 a4 a5 a6 a7 a8 a9 a10 a11 a12 a13 a14 a15 o_n o_all o_made o_own0 o_own1 o_threatMany o_length o_holes o_tellings o_game o_near o_kept o_isKept o_threatOf o_threatSet o_text o_far o_back o_hole o_isWon o_won o_lasts o_power o_told) s.heap.size = A at hD hN ⊢
  have hA : ∀ q : Nat, s.heap.size ≤ q → A q := fun q h => by rw [← hAe]; exact Or.inr h
  have hS : va_S A s.heap s.heap [] := va_S.rf
  have hx := hc.1
  have hb := hc.2.1
  have hown := hc.2.2.2.2.1
  have hts := hc.2.2.2.2.2.1
  refine en_F rfl (fun ls hl => ?_)
  have hl : lv_has ls 8 [(0, .ref a0), (1, .int p1), (2, .int p2)] := hl
  refine lv_iconst (v := (-1 : Int32)) hx hb dX6_decides_0 (by decide) ?_
  refine lv_istore_n (lv' := [(3, .int (-1 : Int32)), (0, .ref a0), (1, .int p1), (2, .int p2)]) hx hb dX6_decides_1 rfl hl (by decide) rfl (fun ls hl => ?_)
  refine lv_iconst (v := (-1 : Int32)) hx hb dX6_decides_2 (by decide) ?_
  refine lv_istore (lv' := [(4, .int (-1 : Int32)), (3, .int (-1 : Int32)), (0, .ref a0), (1, .int p1), (2, .int p2)]) hx hb dX6_decides_3 hl (by decide) rfl (fun ls hl => ?_)
  refine lv_iconst (v := (0 : Int32)) hx hb dX6_decides_5 (by decide) ?_
  refine lv_istore (lv' := [(5, .int (0 : Int32)), (4, .int (-1 : Int32)), (3, .int (-1 : Int32)), (0, .ref a0), (1, .int p1), (2, .int p2)]) hx hb dX6_decides_6 hl (by decide) rfl (fun ls hl => ?_)
  exact w_X6_decides_c8 hc hK hA hO hN  FU (-1 : Int32) (-1 : Int32) (0 : Int32) o_won o_lasts hf _ _ hP hD hS ls (lv_sub hl [3, 4, 5, 2, 1, 0] rfl)
abbrev R_X6_solves : Room := { frames := 4, cells := 0, slots := 0, locals := 98 }
def m_X6_solves_c115  (k35 : Int32 → Int32 → (Nat → Int32) → (Nat → Int32) → (Nat → Int32) → (Nat → Int32) → Option (Int32 × Int32 × (Nat → Int32) × (Nat → Int32) × (Nat → Int32) × (Nat → Int32))) (v1 : Int32) (o_holes : Int32) (o_hole : Nat → Int32) (o_won : Nat → Int32) (o_lasts : Nat → Int32) (o_power : Nat → Int32) : Option (Int32 × Int32 × (Nat → Int32) × (Nat → Int32) × (Nat → Int32) × (Nat → Int32)) := (k35 (v1 + (-1 : Int32)) o_holes o_hole o_won o_lasts o_power)
set_option maxHeartbeats 4000000 in
set_option maxRecDepth 100000 in
theorem w_X6_solves_c115 {p : Program} {l : Launch} {e : Env} {s : State} {m : MethodId} {args : Array Value} {below : List Frame} {meth : Method} {c : Code} {D : va_G} {C : Nat → ClassId} {A : Nat → Prop} {a0 : Nat} {a1 : Nat} {a2 : Nat} {a3 : Nat} {a4 : Nat} {a5 : Nat} {a6 : Nat} {a7 : Nat} {a8 : Nat} {a9 : Nat} {a10 : Nat} {a11 : Nat} {a12 : Nat} {a13 : Nat} {a14 : Nat} {a15 : Nat} {o_n : Int32} {o_all : Int32} {o_made : Int32} {o_own0 : Int64} {o_own1 : Int64} {o_threatMany : Int32} {o_length : Int32} {o_tellings : Int32} {o_game : Nat → Int32} {o_near : Nat → Int64} {o_kept : Nat → Int32} {o_isKept : Nat → Int32} {o_threatOf : Nat → Int32} {o_threatSet : Nat → Int64} {o_text : Nat → Int32} {o_far : Nat → Int32} {o_back : Nat → Int32} {o_isWon : Nat → Int32} {o_told : Nat → Int32} {o : Int32 × Int32 × (Nat → Int32) × (Nat → Int32) × (Nat → Int32) × (Nat → Int32)} (hc : Cx p s m args meth c yX6_solves cX6_solves 3 (some .boolean)) (hK : va_K D vwCl (TY C) s) (hA : ∀ q : Nat, s.heap.size ≤ q → A q) (hO : va_P D vwCl ([] : va_W) s.heap) (hN : ∀ q ∈ ([] : va_W), ¬ A q.1) (k35 : Int32 → Int32 → (Nat → Int32) → (Nat → Int32) → (Nat → Int32) → (Nat → Int32) → Option (Int32 × Int32 × (Nat → Int32) × (Nat → Int32) × (Nat → Int32) × (Nat → Int32))) (hk35 : ∀ (v1 : Int32) (o_holes : Int32) (o_hole : Nat → Int32) (o_won : Nat → Int32) (o_lasts : Nat → Int32) (o_power : Nat → Int32), k35 v1 o_holes o_hole o_won o_lasts o_power = some o → ∀ (H : Heap) (locs : List Loc), va_P D vwCl (wX6 C a0 a1 a2 a3 a4 a5 a6 a7 a8 a9 a10 a11 a12 a13 a14 a15 o_n o_all o_made o_own0 o_own1 o_threatMany o_length o_holes o_tellings o_game o_near o_kept o_isKept o_threatOf o_threatSet o_text o_far o_back o_hole o_isWon o_won o_lasts o_power o_told) H → va_D A (wX6 C a0 a1 a2 a3 a4 a5 a6 a7 a8 a9 a10 a11 a12 a13 a14 a15 o_n o_all o_made o_own0 o_own1 o_threatMany o_length o_holes o_tellings o_game o_near o_kept o_isKept o_threatOf o_threatSet o_text o_far o_back o_hole o_isWon o_won o_lasts o_power o_told) → va_S A s.heap H locs → ∀ (ls : Array Slot), lv_has ls 3 [(0, .ref a0), (1, .int v1)] → W p l e R_X6_solves s m args below meth c H locs 0 0 (MQ below (QWi D o.1 (wX6 C a0 a1 a2 a3 a4 a5 a6 a7 a8 a9 a10 a11 a12 a13 a14 a15 o_n o_all o_made o_own0 o_own1 o_threatMany o_length o.2.1 o_tellings o_game o_near o_kept o_isKept o_threatOf o_threatSet o_text o_far o_back o.2.2.1 o_isWon o.2.2.2.1 o.2.2.2.2.1 o.2.2.2.2.2 o_told) A) args s 0 0 A) (F0 m 35 ls [])) : ∀ (v1 : Int32) (o_holes : Int32) (o_hole : Nat → Int32) (o_won : Nat → Int32) (o_lasts : Nat → Int32) (o_power : Nat → Int32), m_X6_solves_c115  k35 v1 o_holes o_hole o_won o_lasts o_power = some o → ∀ (H : Heap) (locs : List Loc), va_P D vwCl (wX6 C a0 a1 a2 a3 a4 a5 a6 a7 a8 a9 a10 a11 a12 a13 a14 a15 o_n o_all o_made o_own0 o_own1 o_threatMany o_length o_holes o_tellings o_game o_near o_kept o_isKept o_threatOf o_threatSet o_text o_far o_back o_hole o_isWon o_won o_lasts o_power o_told) H → va_D A (wX6 C a0 a1 a2 a3 a4 a5 a6 a7 a8 a9 a10 a11 a12 a13 a14 a15 o_n o_all o_made o_own0 o_own1 o_threatMany o_length o_holes o_tellings o_game o_near o_kept o_isKept o_threatOf o_threatSet o_text o_far o_back o_hole o_isWon o_won o_lasts o_power o_told) → va_S A s.heap H locs → ∀ (ls : Array Slot), lv_has ls 3 [(0, .ref a0), (1, .int v1)] → W p l e R_X6_solves s m args below meth c H locs 0 0 (MQ below (QWi D o.1 (wX6 C a0 a1 a2 a3 a4 a5 a6 a7 a8 a9 a10 a11 a12 a13 a14 a15 o_n o_all o_made o_own0 o_own1 o_threatMany o_length o.2.1 o_tellings o_game o_near o_kept o_isKept o_threatOf o_threatSet o_text o_far o_back o.2.2.1 o_isWon o.2.2.2.1 o.2.2.2.2.1 o.2.2.2.2.2 o_told) A) args s 0 0 A) (F0 m 115 ls []) := by
  have hx := hc.1
  have hb := hc.2.1
  have hown := hc.2.2.2.2.1
  have hts := hc.2.2.2.2.2.1
  intro v1 o_holes o_hole o_won o_lasts o_power hf H locs hP hD hS ls hl
  refine lv_iinc (v := (v1 + (-1 : Int32))) (lv' := [(1, .int (v1 + (-1 : Int32))), (0, .ref a0)]) hx hb dX6_solves_115 hl (k := 1) rfl rfl (by decide) rfl (fun ls hl => ?_)
  refine lv_goto (tgt := 35) hx hb dX6_solves_118 (by decide) ?_
  exact hk35 (v1 + (-1 : Int32)) o_holes o_hole o_won o_lasts o_power hf _ _ hP hD hS ls (lv_sub hl [1, 0] rfl)
def m_X6_solves_c76 (o_made : Int32) (k35 : Int32 → Int32 → (Nat → Int32) → (Nat → Int32) → (Nat → Int32) → (Nat → Int32) → Option (Int32 × Int32 × (Nat → Int32) × (Nat → Int32) × (Nat → Int32) × (Nat → Int32))) (v1 : Int32) (t0 : Int32) (o_holes : Int32) (o_hole : Nat → Int32) (o_won : Nat → Int32) (o_lasts : Nat → Int32) (o_power : Nat → Int32) : Option (Int32 × Int32 × (Nat → Int32) × (Nat → Int32) × (Nat → Int32) × (Nat → Int32)) := (if t0 < 0 then ((m_X6_laidMany o_holes o_power v1).bind fun u13 => ((m_X6_decides o_holes o_won o_lasts o_power v1 (jirem (o_made + u13) (2 : Int32))).bind fun u14 => (m_X6_solves_c115 k35 v1 o_holes o_hole u14.1 u14.2 o_power))) else (if okI v1 19683 = true then (if okI v1 19683 = true then (m_X6_solves_c115 k35 v1 o_holes o_hole (upd o_won v1.toNatClampNeg t0) (upd o_lasts v1.toNatClampNeg (0 : Int32)) o_power) else none) else none))
set_option maxHeartbeats 4000000 in
set_option maxRecDepth 100000 in
theorem w_X6_solves_c76 {p : Program} {l : Launch} {e : Env} {s : State} {m : MethodId} {args : Array Value} {below : List Frame} {meth : Method} {c : Code} {D : va_G} {C : Nat → ClassId} {A : Nat → Prop} {a0 : Nat} {a1 : Nat} {a2 : Nat} {a3 : Nat} {a4 : Nat} {a5 : Nat} {a6 : Nat} {a7 : Nat} {a8 : Nat} {a9 : Nat} {a10 : Nat} {a11 : Nat} {a12 : Nat} {a13 : Nat} {a14 : Nat} {a15 : Nat} {o_n : Int32} {o_all : Int32} {o_made : Int32} {o_own0 : Int64} {o_own1 : Int64} {o_threatMany : Int32} {o_length : Int32} {o_tellings : Int32} {o_game : Nat → Int32} {o_near : Nat → Int64} {o_kept : Nat → Int32} {o_isKept : Nat → Int32} {o_threatOf : Nat → Int32} {o_threatSet : Nat → Int64} {o_text : Nat → Int32} {o_far : Nat → Int32} {o_back : Nat → Int32} {o_isWon : Nat → Int32} {o_told : Nat → Int32} {o : Int32 × Int32 × (Nat → Int32) × (Nat → Int32) × (Nat → Int32) × (Nat → Int32)} (hc : Cx p s m args meth c yX6_solves cX6_solves 3 (some .boolean)) (hK : va_K D vwCl (TY C) s) (hA : ∀ q : Nat, s.heap.size ≤ q → A q) (hO : va_P D vwCl ([] : va_W) s.heap) (hN : ∀ q ∈ ([] : va_W), ¬ A q.1) (k35 : Int32 → Int32 → (Nat → Int32) → (Nat → Int32) → (Nat → Int32) → (Nat → Int32) → Option (Int32 × Int32 × (Nat → Int32) × (Nat → Int32) × (Nat → Int32) × (Nat → Int32))) (hk35 : ∀ (v1 : Int32) (o_holes : Int32) (o_hole : Nat → Int32) (o_won : Nat → Int32) (o_lasts : Nat → Int32) (o_power : Nat → Int32), k35 v1 o_holes o_hole o_won o_lasts o_power = some o → ∀ (H : Heap) (locs : List Loc), va_P D vwCl (wX6 C a0 a1 a2 a3 a4 a5 a6 a7 a8 a9 a10 a11 a12 a13 a14 a15 o_n o_all o_made o_own0 o_own1 o_threatMany o_length o_holes o_tellings o_game o_near o_kept o_isKept o_threatOf o_threatSet o_text o_far o_back o_hole o_isWon o_won o_lasts o_power o_told) H → va_D A (wX6 C a0 a1 a2 a3 a4 a5 a6 a7 a8 a9 a10 a11 a12 a13 a14 a15 o_n o_all o_made o_own0 o_own1 o_threatMany o_length o_holes o_tellings o_game o_near o_kept o_isKept o_threatOf o_threatSet o_text o_far o_back o_hole o_isWon o_won o_lasts o_power o_told) → va_S A s.heap H locs → ∀ (ls : Array Slot), lv_has ls 3 [(0, .ref a0), (1, .int v1)] → W p l e R_X6_solves s m args below meth c H locs 0 0 (MQ below (QWi D o.1 (wX6 C a0 a1 a2 a3 a4 a5 a6 a7 a8 a9 a10 a11 a12 a13 a14 a15 o_n o_all o_made o_own0 o_own1 o_threatMany o_length o.2.1 o_tellings o_game o_near o_kept o_isKept o_threatOf o_threatSet o_text o_far o_back o.2.2.1 o_isWon o.2.2.2.1 o.2.2.2.2.1 o.2.2.2.2.2 o_told) A) args s 0 0 A) (F0 m 35 ls [])) : ∀ (v1 : Int32) (t0 : Int32) (o_holes : Int32) (o_hole : Nat → Int32) (o_won : Nat → Int32) (o_lasts : Nat → Int32) (o_power : Nat → Int32), m_X6_solves_c76 o_made k35 v1 t0 o_holes o_hole o_won o_lasts o_power = some o → ∀ (H : Heap) (locs : List Loc), va_P D vwCl (wX6 C a0 a1 a2 a3 a4 a5 a6 a7 a8 a9 a10 a11 a12 a13 a14 a15 o_n o_all o_made o_own0 o_own1 o_threatMany o_length o_holes o_tellings o_game o_near o_kept o_isKept o_threatOf o_threatSet o_text o_far o_back o_hole o_isWon o_won o_lasts o_power o_told) H → va_D A (wX6 C a0 a1 a2 a3 a4 a5 a6 a7 a8 a9 a10 a11 a12 a13 a14 a15 o_n o_all o_made o_own0 o_own1 o_threatMany o_length o_holes o_tellings o_game o_near o_kept o_isKept o_threatOf o_threatSet o_text o_far o_back o_hole o_isWon o_won o_lasts o_power o_told) → va_S A s.heap H locs → ∀ (ls : Array Slot), lv_has ls 3 [(0, .ref a0), (1, .int v1)] → W p l e R_X6_solves s m args below meth c H locs 0 0 (MQ below (QWi D o.1 (wX6 C a0 a1 a2 a3 a4 a5 a6 a7 a8 a9 a10 a11 a12 a13 a14 a15 o_n o_all o_made o_own0 o_own1 o_threatMany o_length o.2.1 o_tellings o_game o_near o_kept o_isKept o_threatOf o_threatSet o_text o_far o_back o.2.2.1 o_isWon o.2.2.2.1 o.2.2.2.2.1 o.2.2.2.2.2 o_told) A) args s 0 0 A) (F0 m 76 ls [.int t0]) := by
  have hx := hc.1
  have hb := hc.2.1
  have hown := hc.2.2.2.2.1
  have hts := hc.2.2.2.2.2.1
  intro v1 t0 o_holes o_hole o_won o_lasts o_power hf H locs hP hD hS ls hl
  refine lv_istore_n (lv' := [(2, .int t0), (0, .ref a0), (1, .int v1)]) hx hb dX6_solves_76 rfl hl (by decide) rfl (fun ls hl => ?_)
  refine lv_iload_n hx hb dX6_solves_77 rfl (lv_at hl 0 rfl) ?_
  refine lv_if_lt (tgt := 98) hx hb dX6_solves_78 (by decide) (fun c12 => ?_) (fun c12 => ?_)
  · have hf := if_t hf c12
    refine lv_aload_n hx hb dX6_solves_98 rfl (lv_at hl 1 rfl) ?_
    refine lv_iload_n hx hb dX6_solves_99 rfl (lv_at hl 2 rfl) ?_
    refine lv_aload_n hx hb dX6_solves_100 rfl (lv_at hl 1 rfl) ?_
    refine va_get (D := D) (ci := 6) (v := .int o_made) (C := RX6) (T := TX6) (N := 24) hx hb hts inX6 hown hK hP 0 rfl rfl 3 (by decide) (hts _ q_657) (fun _ h9 => h9) rfl dX6_solves_101 ?_
    refine lv_aload_n hx hb dX6_solves_104 rfl (lv_at hl 1 rfl) ?_
    refine lv_iload_n hx hb dX6_solves_105 rfl (lv_at hl 2 rfl) ?_
    obtain ⟨u13, hu13, hf⟩ := bind_some hf
    refine rcVi (As := [.int v1]) (rest := [.int o_made, .int v1, .ref a0]) hc k_X6_204 (c_X6_laidMany l D C a0 a14 o_n a1 o_all o_made o_own0 o_own1 a2 a3 a4 a5 a6 o_threatMany a7 o_length a8 a9 a10 o_holes a11 a12 a13 a15 o_tellings o_power v1  _ hu13) ⟨rfl, rfl, Nat.le_of_ble_eq_true rfl, Nat.le_of_ble_eq_true rfl⟩ (hP.sub [0, 14] rfl) hK (q0 := 0) rfl rfl rfl hl rfl rfl (Nat.le_of_ble_eq_true rfl) ⟨Nat.zero_le _, Nat.zero_le _⟩ dX6_solves_106 ?_
    refine lv_iadd hx hb dX6_solves_109 ?_
    refine lv_iconst (v := (2 : Int32)) hx hb dX6_solves_110 (by decide) ?_
    refine lv_irem hx hb dX6_solves_111 (by decide) ?_
    obtain ⟨u14, hu14, hf⟩ := bind_some hf
    refine wcVv (A := A) (wc := wX6 C a0 a1 a2 a3 a4 a5 a6 a7 a8 a9 a10 a11 a12 a13 a14 a15 o_n o_all o_made o_own0 o_own1 o_threatMany o_length o_holes o_tellings o_game o_near o_kept o_isKept o_threatOf o_threatSet o_text o_far o_back o_hole o_isWon o_won o_lasts o_power o_told) (w1 := wX6 C a0 a1 a2 a3 a4 a5 a6 a7 a8 a9 a10 a11 a12 a13 a14 a15 o_n o_all o_made o_own0 o_own1 o_threatMany o_length o_holes o_tellings o_game o_near o_kept o_isKept o_threatOf o_threatSet o_text o_far o_back o_hole o_isWon u14.1 u14.2 o_power o_told) (rc := []) (As := [.int v1, .int (jirem (o_made + u13) (2 : Int32))]) (rest := []) hc k_X6_207 (c_X6_decides l D C _ a0 a1 a2 a3 a4 a5 a6 a7 a8 a9 a10 a11 a12 a13 a14 a15 o_n o_all o_made o_own0 o_own1 o_threatMany o_length o_holes o_tellings o_game o_near o_kept o_isKept o_threatOf o_threatSet o_text o_far o_back o_hole o_isWon o_won o_lasts o_power o_told v1 (jirem (o_made + u13) (2 : Int32))  _ hu14) ⟨rfl, rfl, Nat.le_of_ble_eq_true rfl, Nat.le_of_ble_eq_true rfl⟩ hP hD hS hA hK [0, 1, 2, 3, 4, 5, 6, 7, 8, 9, 10, 11, 12, 13, 14, 15] [] rfl rfl rfl rfl (by decide) (hP.sub [] rfl) Ap_nil (q0 := 0) rfl rfl rfl hl rfl rfl (Nat.le_of_ble_eq_true rfl) ⟨Nat.zero_le _, Nat.zero_le _⟩ dX6_solves_112 (fun H locs hP hD hS => ?_)
    have hP : va_P D vwCl (wX6 C a0 a1 a2 a3 a4 a5 a6 a7 a8 a9 a10 a11 a12 a13 a14 a15 o_n o_all o_made o_own0 o_own1 o_threatMany o_length o_holes o_tellings o_game o_near o_kept o_isKept o_threatOf o_threatSet o_text o_far o_back o_hole o_isWon u14.1 u14.2 o_power o_told) H := hP.sub [0, 1, 2, 3, 4, 5, 6, 7, 8, 9, 10, 11, 12, 13, 14, 15] rfl
    have hD : va_D A (wX6 C a0 a1 a2 a3 a4 a5 a6 a7 a8 a9 a10 a11 a12 a13 a14 a15 o_n o_all o_made o_own0 o_own1 o_threatMany o_length o_holes o_tellings o_game o_near o_kept o_isKept o_threatOf o_threatSet o_text o_far o_back o_hole o_isWon u14.1 u14.2 o_power o_told) := hD.sub [0, 1, 2, 3, 4, 5, 6, 7, 8, 9, 10, 11, 12, 13, 14, 15] rfl rfl
    exact w_X6_solves_c115 hc hK hA hO hN k35 hk35 v1 o_holes o_hole u14.1 u14.2 o_power hf _ _ hP hD hS ls (lv_sub hl [1, 2] rfl)
  · have hf := if_f hf c12
    refine lv_aload_n hx hb dX6_solves_81 rfl (lv_at hl 1 rfl) ?_
    refine va_get (D := D) (ci := 6) (v := .ref a12) (C := RX6) (T := TX6) (N := 24) hx hb hts inX6 hown hK hP 0 rfl rfl 19 (by decide) (hts _ q_673) (fun _ h9 => h9) rfl dX6_solves_82 ?_
    refine lv_iload_n hx hb dX6_solves_85 rfl (lv_at hl 2 rfl) ?_
    refine lv_iload_n hx hb dX6_solves_86 rfl (lv_at hl 0 rfl) ?_
    obtain ⟨h15, hf⟩ := ok_t hf
    refine va_iast hx hb hK hP hD hS 12 0 rfl rfl (okI_in h15) dX6_solves_87 (fun H locs hP hD hS => ?_)
    have hP : va_P D vwCl (wX6 C a0 a1 a2 a3 a4 a5 a6 a7 a8 a9 a10 a11 a12 a13 a14 a15 o_n o_all o_made o_own0 o_own1 o_threatMany o_length o_holes o_tellings o_game o_near o_kept o_isKept o_threatOf o_threatSet o_text o_far o_back o_hole o_isWon (upd o_won v1.toNatClampNeg t0) o_lasts o_power o_told) H := hP
    have hD : va_D A (wX6 C a0 a1 a2 a3 a4 a5 a6 a7 a8 a9 a10 a11 a12 a13 a14 a15 o_n o_all o_made o_own0 o_own1 o_threatMany o_length o_holes o_tellings o_game o_near o_kept o_isKept o_threatOf o_threatSet o_text o_far o_back o_hole o_isWon (upd o_won v1.toNatClampNeg t0) o_lasts o_power o_told) := hD
    refine lv_aload_n hx hb dX6_solves_88 rfl (lv_at hl 1 rfl) ?_
    refine va_get (D := D) (ci := 6) (v := .ref a13) (C := RX6) (T := TX6) (N := 24) hx hb hts inX6 hown hK hP 0 rfl rfl 20 (by decide) (hts _ q_674) (fun _ h9 => h9) rfl dX6_solves_89 ?_
    refine lv_iload_n hx hb dX6_solves_92 rfl (lv_at hl 2 rfl) ?_
    refine lv_iconst (v := (0 : Int32)) hx hb dX6_solves_93 (by decide) ?_
    obtain ⟨h16, hf⟩ := ok_t hf
    refine va_iast hx hb hK hP hD hS 13 0 rfl rfl (okI_in h16) dX6_solves_94 (fun H locs hP hD hS => ?_)
    have hP : va_P D vwCl (wX6 C a0 a1 a2 a3 a4 a5 a6 a7 a8 a9 a10 a11 a12 a13 a14 a15 o_n o_all o_made o_own0 o_own1 o_threatMany o_length o_holes o_tellings o_game o_near o_kept o_isKept o_threatOf o_threatSet o_text o_far o_back o_hole o_isWon (upd o_won v1.toNatClampNeg t0) (upd o_lasts v1.toNatClampNeg (0 : Int32)) o_power o_told) H := hP
    have hD : va_D A (wX6 C a0 a1 a2 a3 a4 a5 a6 a7 a8 a9 a10 a11 a12 a13 a14 a15 o_n o_all o_made o_own0 o_own1 o_threatMany o_length o_holes o_tellings o_game o_near o_kept o_isKept o_threatOf o_threatSet o_text o_far o_back o_hole o_isWon (upd o_won v1.toNatClampNeg t0) (upd o_lasts v1.toNatClampNeg (0 : Int32)) o_power o_told) := hD
    refine lv_goto (tgt := 115) hx hb dX6_solves_95 (by decide) ?_
    exact w_X6_solves_c115 hc hK hA hO hN k35 hk35 v1 o_holes o_hole (upd o_won v1.toNatClampNeg t0) (upd o_lasts v1.toNatClampNeg (0 : Int32)) o_power hf _ _ hP hD hS ls (lv_sub hl [1, 2] rfl)
def m_X6_solves_c35 (o_n : Int32) (o_made : Int32) (o_own0 : Int64) (o_own1 : Int64) (o_near : Nat → Int64)  : Nat → Int32 → Int32 → (Nat → Int32) → (Nat → Int32) → (Nat → Int32) → (Nat → Int32) → Option (Int32 × Int32 × (Nat → Int32) × (Nat → Int32) × (Nat → Int32) × (Nat → Int32))
  | 0, _, _, _, _, _, _ => none
  | n + 1, v1, o_holes, o_hole, o_won, o_lasts, o_power => (if v1 < 0 then some ((1 : Int32), o_holes, o_hole, o_won, o_lasts, o_power) else ((m_X6_laid o_own0 o_own1 o_holes o_power o_hole v1 (0 : Int32)).bind fun u6 => ((m_X6_wins o_n o_near (0 : Int32) u6).bind fun u7 => (if u7 = 0 then ((m_X6_laid o_own0 o_own1 o_holes o_power o_hole v1 (1 : Int32)).bind fun u9 => ((m_X6_wins o_n o_near (1 : Int32) u9).bind fun u10 => (if u10 = 0 then (m_X6_solves_c76 o_made (m_X6_solves_c35 o_n o_made o_own0 o_own1 o_near  n) v1 (-1 : Int32) o_holes o_hole o_won o_lasts o_power) else (m_X6_solves_c76 o_made (m_X6_solves_c35 o_n o_made o_own0 o_own1 o_near  n) v1 (1 : Int32) o_holes o_hole o_won o_lasts o_power)))) else (m_X6_solves_c76 o_made (m_X6_solves_c35 o_n o_made o_own0 o_own1 o_near  n) v1 (0 : Int32) o_holes o_hole o_won o_lasts o_power)))))
set_option maxHeartbeats 4000000 in
set_option maxRecDepth 100000 in
theorem w_X6_solves_c35 {p : Program} {l : Launch} {e : Env} {s : State} {m : MethodId} {args : Array Value} {below : List Frame} {meth : Method} {c : Code} {D : va_G} {C : Nat → ClassId} {A : Nat → Prop} {a0 : Nat} {a1 : Nat} {a2 : Nat} {a3 : Nat} {a4 : Nat} {a5 : Nat} {a6 : Nat} {a7 : Nat} {a8 : Nat} {a9 : Nat} {a10 : Nat} {a11 : Nat} {a12 : Nat} {a13 : Nat} {a14 : Nat} {a15 : Nat} {o_n : Int32} {o_all : Int32} {o_made : Int32} {o_own0 : Int64} {o_own1 : Int64} {o_threatMany : Int32} {o_length : Int32} {o_tellings : Int32} {o_game : Nat → Int32} {o_near : Nat → Int64} {o_kept : Nat → Int32} {o_isKept : Nat → Int32} {o_threatOf : Nat → Int32} {o_threatSet : Nat → Int64} {o_text : Nat → Int32} {o_far : Nat → Int32} {o_back : Nat → Int32} {o_isWon : Nat → Int32} {o_told : Nat → Int32} {o : Int32 × Int32 × (Nat → Int32) × (Nat → Int32) × (Nat → Int32) × (Nat → Int32)} (hc : Cx p s m args meth c yX6_solves cX6_solves 3 (some .boolean)) (hK : va_K D vwCl (TY C) s) (hA : ∀ q : Nat, s.heap.size ≤ q → A q) (hO : va_P D vwCl ([] : va_W) s.heap) (hN : ∀ q ∈ ([] : va_W), ¬ A q.1) : ∀ (n : Nat), ∀ (v1 : Int32) (o_holes : Int32) (o_hole : Nat → Int32) (o_won : Nat → Int32) (o_lasts : Nat → Int32) (o_power : Nat → Int32), m_X6_solves_c35 o_n o_made o_own0 o_own1 o_near  n v1 o_holes o_hole o_won o_lasts o_power = some o → ∀ (H : Heap) (locs : List Loc), va_P D vwCl (wX6 C a0 a1 a2 a3 a4 a5 a6 a7 a8 a9 a10 a11 a12 a13 a14 a15 o_n o_all o_made o_own0 o_own1 o_threatMany o_length o_holes o_tellings o_game o_near o_kept o_isKept o_threatOf o_threatSet o_text o_far o_back o_hole o_isWon o_won o_lasts o_power o_told) H → va_D A (wX6 C a0 a1 a2 a3 a4 a5 a6 a7 a8 a9 a10 a11 a12 a13 a14 a15 o_n o_all o_made o_own0 o_own1 o_threatMany o_length o_holes o_tellings o_game o_near o_kept o_isKept o_threatOf o_threatSet o_text o_far o_back o_hole o_isWon o_won o_lasts o_power o_told) → va_S A s.heap H locs → ∀ (ls : Array Slot), lv_has ls 3 [(0, .ref a0), (1, .int v1)] → W p l e R_X6_solves s m args below meth c H locs 0 0 (MQ below (QWi D o.1 (wX6 C a0 a1 a2 a3 a4 a5 a6 a7 a8 a9 a10 a11 a12 a13 a14 a15 o_n o_all o_made o_own0 o_own1 o_threatMany o_length o.2.1 o_tellings o_game o_near o_kept o_isKept o_threatOf o_threatSet o_text o_far o_back o.2.2.1 o_isWon o.2.2.2.1 o.2.2.2.2.1 o.2.2.2.2.2 o_told) A) args s 0 0 A) (F0 m 35 ls []) := by
  have hx := hc.1
  have hb := hc.2.1
  have hown := hc.2.2.2.2.1
  have hts := hc.2.2.2.2.2.1
  intro n
  induction n with
  | zero =>
    intro v1 o_holes o_hole o_won o_lasts o_power hf
    exact no_some hf
  | succ n ih =>
    intro v1 o_holes o_hole o_won o_lasts o_power hf H locs hP hD hS ls hl
    refine lv_iload_n hx hb dX6_solves_35 rfl (lv_at hl 1 rfl) ?_
    refine lv_if_lt (tgt := 121) hx hb dX6_solves_36 (by decide) (fun c5 => ?_) (fun c5 => ?_)
    · have hf := if_t hf c5
      refine lv_iconst (v := (1 : Int32)) hx hb dX6_solves_121 (by decide) ?_
      have hf := Option.some.inj hf
      subst hf
      exact rWz hc rfl rfl hP hD hS dX6_solves_122
    · have hf := if_f hf c5
      refine lv_aload_n hx hb dX6_solves_39 rfl (lv_at hl 0 rfl) ?_
      refine lv_iconst (v := (0 : Int32)) hx hb dX6_solves_40 (by decide) ?_
      refine lv_aload_n hx hb dX6_solves_41 rfl (lv_at hl 0 rfl) ?_
      refine lv_iload_n hx hb dX6_solves_42 rfl (lv_at hl 1 rfl) ?_
      refine lv_iconst (v := (0 : Int32)) hx hb dX6_solves_43 (by decide) ?_
      obtain ⟨u6, hu6, hf⟩ := bind_some hf
      refine rcVl (As := [.int v1, .int (0 : Int32)]) (rest := [.int (0 : Int32), .ref a0]) hc k_X6_200 (c_X6_laid l D C a0 a14 a10 o_n a1 o_all o_made o_own0 o_own1 a2 a3 a4 a5 a6 o_threatMany a7 o_length a8 a9 o_holes a11 a12 a13 a15 o_tellings o_power o_hole v1 (0 : Int32)  _ hu6) ⟨rfl, rfl, Nat.le_of_ble_eq_true rfl, Nat.le_of_ble_eq_true rfl⟩ (hP.sub [0, 14, 10] rfl) hK (q0 := 0) rfl rfl rfl hl rfl rfl (Nat.le_of_ble_eq_true rfl) ⟨Nat.zero_le _, Nat.zero_le _⟩ dX6_solves_44 ?_
      obtain ⟨u7, hu7, hf⟩ := bind_some hf
      refine rcVi (As := [.int (0 : Int32), .long u6]) (rest := []) hc k_X6_101 (c_X6_wins l D C a0 a2 o_n a1 o_all o_made o_own0 o_own1 a3 a4 a5 a6 o_threatMany a7 o_length a8 a9 a10 o_holes a11 a12 a13 a14 a15 o_tellings o_near (0 : Int32) u6  _ hu7) ⟨rfl, rfl, Nat.le_of_ble_eq_true rfl, Nat.le_of_ble_eq_true rfl⟩ (hP.sub [0, 2] rfl) hK (q0 := 0) rfl rfl rfl hl rfl rfl (Nat.le_of_ble_eq_true rfl) ⟨Nat.zero_le _, Nat.zero_le _⟩ dX6_solves_47 ?_
      refine lv_if_eq (tgt := 57) hx hb dX6_solves_50 (by decide) (fun c8 => ?_) (fun c8 => ?_)
      · have hf := if_t hf c8
        refine lv_aload_n hx hb dX6_solves_57 rfl (lv_at hl 0 rfl) ?_
        refine lv_iconst (v := (1 : Int32)) hx hb dX6_solves_58 (by decide) ?_
        refine lv_aload_n hx hb dX6_solves_59 rfl (lv_at hl 0 rfl) ?_
        refine lv_iload_n hx hb dX6_solves_60 rfl (lv_at hl 1 rfl) ?_
        refine lv_iconst (v := (1 : Int32)) hx hb dX6_solves_61 (by decide) ?_
        obtain ⟨u9, hu9, hf⟩ := bind_some hf
        refine rcVl (As := [.int v1, .int (1 : Int32)]) (rest := [.int (1 : Int32), .ref a0]) hc k_X6_200 (c_X6_laid l D C a0 a14 a10 o_n a1 o_all o_made o_own0 o_own1 a2 a3 a4 a5 a6 o_threatMany a7 o_length a8 a9 o_holes a11 a12 a13 a15 o_tellings o_power o_hole v1 (1 : Int32)  _ hu9) ⟨rfl, rfl, Nat.le_of_ble_eq_true rfl, Nat.le_of_ble_eq_true rfl⟩ (hP.sub [0, 14, 10] rfl) hK (q0 := 0) rfl rfl rfl hl rfl rfl (Nat.le_of_ble_eq_true rfl) ⟨Nat.zero_le _, Nat.zero_le _⟩ dX6_solves_62 ?_
        obtain ⟨u10, hu10, hf⟩ := bind_some hf
        refine rcVi (As := [.int (1 : Int32), .long u9]) (rest := []) hc k_X6_101 (c_X6_wins l D C a0 a2 o_n a1 o_all o_made o_own0 o_own1 a3 a4 a5 a6 o_threatMany a7 o_length a8 a9 a10 o_holes a11 a12 a13 a14 a15 o_tellings o_near (1 : Int32) u9  _ hu10) ⟨rfl, rfl, Nat.le_of_ble_eq_true rfl, Nat.le_of_ble_eq_true rfl⟩ (hP.sub [0, 2] rfl) hK (q0 := 0) rfl rfl rfl hl rfl rfl (Nat.le_of_ble_eq_true rfl) ⟨Nat.zero_le _, Nat.zero_le _⟩ dX6_solves_65 ?_
        refine lv_if_eq (tgt := 75) hx hb dX6_solves_68 (by decide) (fun c11 => ?_) (fun c11 => ?_)
        · have hf := if_t hf c11
          refine lv_iconst (v := (-1 : Int32)) hx hb dX6_solves_75 (by decide) ?_
          exact w_X6_solves_c76 hc hK hA hO hN (m_X6_solves_c35 o_n o_made o_own0 o_own1 o_near  n) ih v1 (-1 : Int32) o_holes o_hole o_won o_lasts o_power hf _ _ hP hD hS ls (lv_sub hl [0, 1] rfl)
        · have hf := if_f hf c11
          refine lv_iconst (v := (1 : Int32)) hx hb dX6_solves_71 (by decide) ?_
          refine lv_goto (tgt := 76) hx hb dX6_solves_72 (by decide) ?_
          exact w_X6_solves_c76 hc hK hA hO hN (m_X6_solves_c35 o_n o_made o_own0 o_own1 o_near  n) ih v1 (1 : Int32) o_holes o_hole o_won o_lasts o_power hf _ _ hP hD hS ls (lv_sub hl [0, 1] rfl)
      · have hf := if_f hf c8
        refine lv_iconst (v := (0 : Int32)) hx hb dX6_solves_53 (by decide) ?_
        refine lv_goto (tgt := 76) hx hb dX6_solves_54 (by decide) ?_
        exact w_X6_solves_c76 hc hK hA hO hN (m_X6_solves_c35 o_n o_made o_own0 o_own1 o_near  n) ih v1 (0 : Int32) o_holes o_hole o_won o_lasts o_power hf _ _ hP hD hS ls (lv_sub hl [0, 1] rfl)
def m_X6_solves (o_n : Int32) (o_made : Int32) (o_own0 : Int64) (o_own1 : Int64) (o_near : Nat → Int64) (o_hole : Nat → Int32) (o_won : Nat → Int32) (o_lasts : Nat → Int32) (o_power : Nat → Int32) : Option (Int32 × Int32 × (Nat → Int32) × (Nat → Int32) × (Nat → Int32) × (Nat → Int32)) := ((m_X6_findHoles o_n o_hole (m_X6_free o_n o_own0 o_own1)).bind fun u1 => (if u1.1 ≤ (9 : Int32) then ((m_X6_powers o_power).bind fun u3 => (if okI u1.1 10 = true then (m_X6_solves_c35 o_n o_made o_own0 o_own1 o_near FU ((u3 u1.1.toNatClampNeg) - (1 : Int32)) u1.1 u1.2 o_won o_lasts u3) else none)) else some ((0 : Int32), u1.1, u1.2, o_won, o_lasts, o_power)))
set_option maxHeartbeats 4000000 in
set_option maxRecDepth 100000 in
theorem c_X6_solves (l : Launch) (D : va_G) (C : Nat → ClassId) (sz : Nat) (a0 : Nat) (a1 : Nat) (a2 : Nat) (a3 : Nat) (a4 : Nat) (a5 : Nat) (a6 : Nat) (a7 : Nat) (a8 : Nat) (a9 : Nat) (a10 : Nat) (a11 : Nat) (a12 : Nat) (a13 : Nat) (a14 : Nat) (a15 : Nat) (o_n : Int32) (o_all : Int32) (o_made : Int32) (o_own0 : Int64) (o_own1 : Int64) (o_threatMany : Int32) (o_length : Int32) (o_holes : Int32) (o_tellings : Int32) (o_game : Nat → Int32) (o_near : Nat → Int64) (o_kept : Nat → Int32) (o_isKept : Nat → Int32) (o_threatOf : Nat → Int32) (o_threatSet : Nat → Int64) (o_text : Nat → Int32) (o_far : Nat → Int32) (o_back : Nat → Int32) (o_hole : Nat → Int32) (o_isWon : Nat → Int32) (o_won : Nat → Int32) (o_lasts : Nat → Int32) (o_power : Nat → Int32) (o_told : Nat → Int32) (o : Int32 × Int32 × (Nat → Int32) × (Nat → Int32) × (Nat → Int32) × (Nat → Int32)) (hf : m_X6_solves o_n o_made o_own0 o_own1 o_near o_hole o_won o_lasts o_power = some o) : Met l yX6_solves (wl yX6_solves cX6_solves 3 (some .boolean)) R_X6_solves (PW [.ref a0] D C sz (wX6 C a0 a1 a2 a3 a4 a5 a6 a7 a8 a9 a10 a11 a12 a13 a14 a15 o_n o_all o_made o_own0 o_own1 o_threatMany o_length o_holes o_tellings o_game o_near o_kept o_isKept o_threatOf o_threatSet o_text o_far o_back o_hole o_isWon o_won o_lasts o_power o_told) ([] : va_W)) (QWi D o.1 (wX6 C a0 a1 a2 a3 a4 a5 a6 a7 a8 a9 a10 a11 a12 a13 a14 a15 o_n o_all o_made o_own0 o_own1 o_threatMany o_length o.2.1 o_tellings o_game o_near o_kept o_isKept o_threatOf o_threatSet o_text o_far o_back o.2.2.1 o_isWon o.2.2.2.1 o.2.2.2.2.1 o.2.2.2.2.2 o_told) (va_A (wX6 C a0 a1 a2 a3 a4 a5 a6 a7 a8 a9 a10 a11 a12 a13 a14 a15 o_n o_all o_made o_own0 o_own1 o_threatMany o_length o_holes o_tellings o_game o_near o_kept o_isKept o_threatOf o_threatSet o_text o_far o_back o_hole o_isWon o_won o_lasts o_power o_told) sz)) 0 0 (va_A (wX6 C a0 a1 a2 a3 a4 a5 a6 a7 a8 a9 a10 a11 a12 a13 a14 a15 o_n o_all o_made o_own0 o_own1 o_threatMany o_length o_holes o_tellings o_game o_near o_kept o_isKept o_threatOf o_threatSet o_text o_far o_back o_hole o_isWon o_won o_lasts o_power o_told) sz) := by
  refine Met_ofC (by decide) ?_
  intro p e s m args below meth c hc hv
  obtain ⟨rfl, hsz, hP, hK, hD0, hO, hN0⟩ := hv
  subst hsz
  have hD := hD0.self (sz := s.heap.size)
  have hN : ∀ q ∈ ([] : va_W), ¬ va_A (wX6 C a0 a1 a2 a3 a4 a5 a6 a7 a8 a9 a10 a11 a12 a13 a14 a15 o_n o_all o_made o_own0 o_own1 o_threatMany o_length o_holes o_tellings o_game o_near o_kept o_isKept o_threatOf o_threatSet o_text o_far o_back o_hole o_isWon o_won o_lasts o_power o_told) s.heap.size q.1 := hN0
  generalize hAe : va_A (wX6 C a0 a1 a2 a3 a4 a5 a6 a7 a8 a9 a10 a11 a12 a13 a14 a15 o_n o_all o_made o_own0 o_own1 o_threatMany o_length o_holes o_tellings o_game o_near o_kept o_isKept o_threatOf o_threatSet o_text o_far o_back o_hole o_isWon o_won o_lasts o_power o_told) s.heap.size = A at hD hN ⊢
  have hA : ∀ q : Nat, s.heap.size ≤ q → A q := fun q h => by rw [← hAe]; exact Or.inr h
  have hS : va_S A s.heap s.heap [] := va_S.rf
  have hx := hc.1
  have hb := hc.2.1
  have hown := hc.2.2.2.2.1
  have hts := hc.2.2.2.2.2.1
  refine en_F rfl (fun ls hl => ?_)
  have hl : lv_has ls 3 [(0, .ref a0)] := hl
  refine lv_aload_n hx hb dX6_solves_0 rfl (lv_at hl 0 rfl) ?_
  refine lv_aload_n hx hb dX6_solves_1 rfl (lv_at hl 0 rfl) ?_
  refine rcVl (As := []) (rest := [.ref a0]) hc k_X6_126 (c_X6_free l D C a0 o_n a1 o_all o_made o_own0 o_own1 a2 a3 a4 a5 a6 o_threatMany a7 o_length a8 a9 a10 o_holes a11 a12 a13 a14 a15 o_tellings  _ rfl) ⟨rfl, rfl, Nat.le_of_ble_eq_true rfl, Nat.le_of_ble_eq_true rfl⟩ (hP.sub [0] rfl) hK (q0 := 0) rfl rfl rfl hl rfl rfl (Nat.le_of_ble_eq_true rfl) ⟨Nat.zero_le _, Nat.zero_le _⟩ dX6_solves_2 ?_
  obtain ⟨u1, hu1, hf⟩ := bind_some hf
  refine wcVv (A := A) (wc := wX6 C a0 a1 a2 a3 a4 a5 a6 a7 a8 a9 a10 a11 a12 a13 a14 a15 o_n o_all o_made o_own0 o_own1 o_threatMany o_length o_holes o_tellings o_game o_near o_kept o_isKept o_threatOf o_threatSet o_text o_far o_back o_hole o_isWon o_won o_lasts o_power o_told) (w1 := wX6 C a0 a1 a2 a3 a4 a5 a6 a7 a8 a9 a10 a11 a12 a13 a14 a15 o_n o_all o_made o_own0 o_own1 o_threatMany o_length u1.1 o_tellings o_game o_near o_kept o_isKept o_threatOf o_threatSet o_text o_far o_back u1.2 o_isWon o_won o_lasts o_power o_told) (rc := []) (As := [.long (m_X6_free o_n o_own0 o_own1)]) (rest := []) hc k_X6_180 (c_X6_findHoles l D C _ a0 a1 a2 a3 a4 a5 a6 a7 a8 a9 a10 a11 a12 a13 a14 a15 o_n o_all o_made o_own0 o_own1 o_threatMany o_length o_holes o_tellings o_game o_near o_kept o_isKept o_threatOf o_threatSet o_text o_far o_back o_hole o_isWon o_won o_lasts o_power o_told (m_X6_free o_n o_own0 o_own1)  _ hu1) ⟨rfl, rfl, Nat.le_of_ble_eq_true rfl, Nat.le_of_ble_eq_true rfl⟩ hP hD hS hA hK [0, 1, 2, 3, 4, 5, 6, 7, 8, 9, 10, 11, 12, 13, 14, 15] [] rfl rfl rfl rfl (by decide) (hP.sub [] rfl) Ap_nil (q0 := 0) rfl rfl rfl hl rfl rfl (Nat.le_of_ble_eq_true rfl) ⟨Nat.zero_le _, Nat.zero_le _⟩ dX6_solves_5 (fun H locs hP hD hS => ?_)
  have hP : va_P D vwCl (wX6 C a0 a1 a2 a3 a4 a5 a6 a7 a8 a9 a10 a11 a12 a13 a14 a15 o_n o_all o_made o_own0 o_own1 o_threatMany o_length u1.1 o_tellings o_game o_near o_kept o_isKept o_threatOf o_threatSet o_text o_far o_back u1.2 o_isWon o_won o_lasts o_power o_told) H := hP.sub [0, 1, 2, 3, 4, 5, 6, 7, 8, 9, 10, 11, 12, 13, 14, 15] rfl
  have hD : va_D A (wX6 C a0 a1 a2 a3 a4 a5 a6 a7 a8 a9 a10 a11 a12 a13 a14 a15 o_n o_all o_made o_own0 o_own1 o_threatMany o_length u1.1 o_tellings o_game o_near o_kept o_isKept o_threatOf o_threatSet o_text o_far o_back u1.2 o_isWon o_won o_lasts o_power o_told) := hD.sub [0, 1, 2, 3, 4, 5, 6, 7, 8, 9, 10, 11, 12, 13, 14, 15] rfl rfl
  refine lv_aload_n hx hb dX6_solves_8 rfl (lv_at hl 0 rfl) ?_
  refine va_get (D := D) (ci := 6) (v := .int u1.1) (C := RX6) (T := TX6) (N := 24) hx hb hts inX6 hown hK hP 0 rfl rfl 17 (by decide) (hts _ q_671) (fun _ h9 => h9) rfl dX6_solves_9 ?_
  refine lv_bipush (v := (9 : Int32)) hx hb dX6_solves_12 (by decide) ?_
  refine lv_icmp_le (tgt := 19) hx hb dX6_solves_14 (by decide) (fun c2 => ?_) (fun c2 => ?_)
  · have hf := if_t hf c2
    refine lv_aload_n hx hb dX6_solves_19 rfl (lv_at hl 0 rfl) ?_
    obtain ⟨u3, hu3, hf⟩ := bind_some hf
    refine wcVv (A := A) (wc := wX6 C a0 a1 a2 a3 a4 a5 a6 a7 a8 a9 a10 a11 a12 a13 a14 a15 o_n o_all o_made o_own0 o_own1 o_threatMany o_length u1.1 o_tellings o_game o_near o_kept o_isKept o_threatOf o_threatSet o_text o_far o_back u1.2 o_isWon o_won o_lasts o_power o_told) (w1 := wX6 C a0 a1 a2 a3 a4 a5 a6 a7 a8 a9 a10 a11 a12 a13 a14 a15 o_n o_all o_made o_own0 o_own1 o_threatMany o_length u1.1 o_tellings o_game o_near o_kept o_isKept o_threatOf o_threatSet o_text o_far o_back u1.2 o_isWon o_won o_lasts u3 o_told) (rc := []) (As := []) (rest := []) hc k_X6_197 (c_X6_powers l D C _ a0 a1 a2 a3 a4 a5 a6 a7 a8 a9 a10 a11 a12 a13 a14 a15 o_n o_all o_made o_own0 o_own1 o_threatMany o_length u1.1 o_tellings o_game o_near o_kept o_isKept o_threatOf o_threatSet o_text o_far o_back u1.2 o_isWon o_won o_lasts o_power o_told  _ hu3) ⟨rfl, rfl, Nat.le_of_ble_eq_true rfl, Nat.le_of_ble_eq_true rfl⟩ hP hD hS hA hK [0, 1, 2, 3, 4, 5, 6, 7, 8, 9, 10, 11, 12, 13, 14, 15] [] rfl rfl rfl rfl (by decide) (hP.sub [] rfl) Ap_nil (q0 := 0) rfl rfl rfl hl rfl rfl (Nat.le_of_ble_eq_true rfl) ⟨Nat.zero_le _, Nat.zero_le _⟩ dX6_solves_20 (fun H locs hP hD hS => ?_)
    have hP : va_P D vwCl (wX6 C a0 a1 a2 a3 a4 a5 a6 a7 a8 a9 a10 a11 a12 a13 a14 a15 o_n o_all o_made o_own0 o_own1 o_threatMany o_length u1.1 o_tellings o_game o_near o_kept o_isKept o_threatOf o_threatSet o_text o_far o_back u1.2 o_isWon o_won o_lasts u3 o_told) H := hP.sub [0, 1, 2, 3, 4, 5, 6, 7, 8, 9, 10, 11, 12, 13, 14, 15] rfl
    have hD : va_D A (wX6 C a0 a1 a2 a3 a4 a5 a6 a7 a8 a9 a10 a11 a12 a13 a14 a15 o_n o_all o_made o_own0 o_own1 o_threatMany o_length u1.1 o_tellings o_game o_near o_kept o_isKept o_threatOf o_threatSet o_text o_far o_back u1.2 o_isWon o_won o_lasts u3 o_told) := hD.sub [0, 1, 2, 3, 4, 5, 6, 7, 8, 9, 10, 11, 12, 13, 14, 15] rfl rfl
    refine lv_aload_n hx hb dX6_solves_23 rfl (lv_at hl 0 rfl) ?_
    refine va_get (D := D) (ci := 6) (v := .ref a14) (C := RX6) (T := TX6) (N := 24) hx hb hts inX6 hown hK hP 0 rfl rfl 21 (by decide) (hts _ q_675) (fun _ h9 => h9) rfl dX6_solves_24 ?_
    refine lv_aload_n hx hb dX6_solves_27 rfl (lv_at hl 0 rfl) ?_
    refine va_get (D := D) (ci := 6) (v := .int u1.1) (C := RX6) (T := TX6) (N := 24) hx hb hts inX6 hown hK hP 0 rfl rfl 17 (by decide) (hts _ q_671) (fun _ h9 => h9) rfl dX6_solves_28 ?_
    obtain ⟨h4, hf⟩ := ok_t hf
    refine va_iald hx hb hK hP 14 0 rfl rfl (okI_in h4) dX6_solves_31 ?_
    refine lv_iconst (v := (1 : Int32)) hx hb dX6_solves_32 (by decide) ?_
    refine lv_isub hx hb dX6_solves_33 ?_
    refine lv_istore_n (lv' := [(1, .int ((u3 u1.1.toNatClampNeg) - (1 : Int32))), (0, .ref a0)]) hx hb dX6_solves_34 rfl hl (by decide) rfl (fun ls hl => ?_)
    exact w_X6_solves_c35 hc hK hA hO hN  FU ((u3 u1.1.toNatClampNeg) - (1 : Int32)) u1.1 u1.2 o_won o_lasts u3 hf _ _ hP hD hS ls (lv_sub hl [1, 0] rfl)
  · have hf := if_f hf c2
    refine lv_iconst (v := (0 : Int32)) hx hb dX6_solves_17 (by decide) ?_
    have hf := Option.some.inj hf
    subst hf
    exact rWz hc rfl rfl hP hD hS dX6_solves_18
abbrev R_X6_solve : Room := { frames := 5, cells := 0, slots := 0, locals := 120 }
def m_X6_solve (o_n : Int32) (o_made : Int32) (o_own0 : Int64) (o_own1 : Int64) (o_near : Nat → Int64) (o_hole : Nat → Int32) (o_won : Nat → Int32) (o_lasts : Nat → Int32) (o_power : Nat → Int32) : Option (Int32 × Int32 × (Nat → Int32) × (Nat → Int32) × (Nat → Int32) × (Nat → Int32)) := ((m_X6_solves o_n o_made o_own0 o_own1 o_near o_hole o_won o_lasts o_power).bind fun u1 => (if u1.1 = 0 then some ((-13 : Int32), u1.2.1, u1.2.2.1, u1.2.2.2.1, u1.2.2.2.2.1, u1.2.2.2.2.2) else some ((u1.2.2.2.1 (0 : Int32).toNatClampNeg), u1.2.1, u1.2.2.1, u1.2.2.2.1, u1.2.2.2.2.1, u1.2.2.2.2.2)))
set_option maxHeartbeats 4000000 in
set_option maxRecDepth 100000 in
theorem c_X6_solve (l : Launch) (D : va_G) (C : Nat → ClassId) (sz : Nat) (a0 : Nat) (a1 : Nat) (a2 : Nat) (a3 : Nat) (a4 : Nat) (a5 : Nat) (a6 : Nat) (a7 : Nat) (a8 : Nat) (a9 : Nat) (a10 : Nat) (a11 : Nat) (a12 : Nat) (a13 : Nat) (a14 : Nat) (a15 : Nat) (o_n : Int32) (o_all : Int32) (o_made : Int32) (o_own0 : Int64) (o_own1 : Int64) (o_threatMany : Int32) (o_length : Int32) (o_holes : Int32) (o_tellings : Int32) (o_game : Nat → Int32) (o_near : Nat → Int64) (o_kept : Nat → Int32) (o_isKept : Nat → Int32) (o_threatOf : Nat → Int32) (o_threatSet : Nat → Int64) (o_text : Nat → Int32) (o_far : Nat → Int32) (o_back : Nat → Int32) (o_hole : Nat → Int32) (o_isWon : Nat → Int32) (o_won : Nat → Int32) (o_lasts : Nat → Int32) (o_power : Nat → Int32) (o_told : Nat → Int32) (o : Int32 × Int32 × (Nat → Int32) × (Nat → Int32) × (Nat → Int32) × (Nat → Int32)) (hf : m_X6_solve o_n o_made o_own0 o_own1 o_near o_hole o_won o_lasts o_power = some o) : Met l yX6_solve (wl yX6_solve cX6_solve 1 (some .int)) R_X6_solve (PW [.ref a0] D C sz (wX6 C a0 a1 a2 a3 a4 a5 a6 a7 a8 a9 a10 a11 a12 a13 a14 a15 o_n o_all o_made o_own0 o_own1 o_threatMany o_length o_holes o_tellings o_game o_near o_kept o_isKept o_threatOf o_threatSet o_text o_far o_back o_hole o_isWon o_won o_lasts o_power o_told) ([] : va_W)) (QWi D o.1 (wX6 C a0 a1 a2 a3 a4 a5 a6 a7 a8 a9 a10 a11 a12 a13 a14 a15 o_n o_all o_made o_own0 o_own1 o_threatMany o_length o.2.1 o_tellings o_game o_near o_kept o_isKept o_threatOf o_threatSet o_text o_far o_back o.2.2.1 o_isWon o.2.2.2.1 o.2.2.2.2.1 o.2.2.2.2.2 o_told) (va_A (wX6 C a0 a1 a2 a3 a4 a5 a6 a7 a8 a9 a10 a11 a12 a13 a14 a15 o_n o_all o_made o_own0 o_own1 o_threatMany o_length o_holes o_tellings o_game o_near o_kept o_isKept o_threatOf o_threatSet o_text o_far o_back o_hole o_isWon o_won o_lasts o_power o_told) sz)) 0 0 (va_A (wX6 C a0 a1 a2 a3 a4 a5 a6 a7 a8 a9 a10 a11 a12 a13 a14 a15 o_n o_all o_made o_own0 o_own1 o_threatMany o_length o_holes o_tellings o_game o_near o_kept o_isKept o_threatOf o_threatSet o_text o_far o_back o_hole o_isWon o_won o_lasts o_power o_told) sz) := by
  refine Met_ofC (by decide) ?_
  intro p e s m args below meth c hc hv
  obtain ⟨rfl, hsz, hP, hK, hD0, hO, hN0⟩ := hv
  subst hsz
  have hD := hD0.self (sz := s.heap.size)
  have hN : ∀ q ∈ ([] : va_W), ¬ va_A (wX6 C a0 a1 a2 a3 a4 a5 a6 a7 a8 a9 a10 a11 a12 a13 a14 a15 o_n o_all o_made o_own0 o_own1 o_threatMany o_length o_holes o_tellings o_game o_near o_kept o_isKept o_threatOf o_threatSet o_text o_far o_back o_hole o_isWon o_won o_lasts o_power o_told) s.heap.size q.1 := hN0
  generalize hAe : va_A (wX6 C a0 a1 a2 a3 a4 a5 a6 a7 a8 a9 a10 a11 a12 a13 a14 a15 o_n o_all o_made o_own0 o_own1 o_threatMany o_length o_holes o_tellings o_game o_near o_kept o_isKept o_threatOf o_threatSet o_text o_far o_back o_hole o_isWon o_won o_lasts o_power o_told) s.heap.size = A at hD hN ⊢
  have hA : ∀ q : Nat, s.heap.size ≤ q → A q := fun q h => by rw [← hAe]; exact Or.inr h
  have hS : va_S A s.heap s.heap [] := va_S.rf
  have hx := hc.1
  have hb := hc.2.1
  have hown := hc.2.2.2.2.1
  have hts := hc.2.2.2.2.2.1
  refine en_F rfl (fun ls hl => ?_)
  have hl : lv_has ls 1 [(0, .ref a0)] := hl
  refine lv_aload_n hx hb dX6_solve_0 rfl (lv_at hl 0 rfl) ?_
  obtain ⟨u1, hu1, hf⟩ := bind_some hf
  refine wcVi (A := A) (wc := wX6 C a0 a1 a2 a3 a4 a5 a6 a7 a8 a9 a10 a11 a12 a13 a14 a15 o_n o_all o_made o_own0 o_own1 o_threatMany o_length o_holes o_tellings o_game o_near o_kept o_isKept o_threatOf o_threatSet o_text o_far o_back o_hole o_isWon o_won o_lasts o_power o_told) (w1 := wX6 C a0 a1 a2 a3 a4 a5 a6 a7 a8 a9 a10 a11 a12 a13 a14 a15 o_n o_all o_made o_own0 o_own1 o_threatMany o_length u1.2.1 o_tellings o_game o_near o_kept o_isKept o_threatOf o_threatSet o_text o_far o_back u1.2.2.1 o_isWon u1.2.2.2.1 u1.2.2.2.2.1 u1.2.2.2.2.2 o_told) (rc := []) (As := []) (rest := []) hc k_X6_210 (c_X6_solves l D C _ a0 a1 a2 a3 a4 a5 a6 a7 a8 a9 a10 a11 a12 a13 a14 a15 o_n o_all o_made o_own0 o_own1 o_threatMany o_length o_holes o_tellings o_game o_near o_kept o_isKept o_threatOf o_threatSet o_text o_far o_back o_hole o_isWon o_won o_lasts o_power o_told  _ hu1) ⟨rfl, rfl, Nat.le_of_ble_eq_true rfl, Nat.le_of_ble_eq_true rfl⟩ hP hD hS hA hK [0, 1, 2, 3, 4, 5, 6, 7, 8, 9, 10, 11, 12, 13, 14, 15] [] rfl rfl rfl rfl (by decide) (hP.sub [] rfl) Ap_nil (q0 := 0) rfl rfl rfl hl rfl rfl (Nat.le_of_ble_eq_true rfl) ⟨Nat.zero_le _, Nat.zero_le _⟩ dX6_solve_1 (fun H locs hP hD hS => ?_)
  have hP : va_P D vwCl (wX6 C a0 a1 a2 a3 a4 a5 a6 a7 a8 a9 a10 a11 a12 a13 a14 a15 o_n o_all o_made o_own0 o_own1 o_threatMany o_length u1.2.1 o_tellings o_game o_near o_kept o_isKept o_threatOf o_threatSet o_text o_far o_back u1.2.2.1 o_isWon u1.2.2.2.1 u1.2.2.2.2.1 u1.2.2.2.2.2 o_told) H := hP.sub [0, 1, 2, 3, 4, 5, 6, 7, 8, 9, 10, 11, 12, 13, 14, 15] rfl
  have hD : va_D A (wX6 C a0 a1 a2 a3 a4 a5 a6 a7 a8 a9 a10 a11 a12 a13 a14 a15 o_n o_all o_made o_own0 o_own1 o_threatMany o_length u1.2.1 o_tellings o_game o_near o_kept o_isKept o_threatOf o_threatSet o_text o_far o_back u1.2.2.1 o_isWon u1.2.2.2.1 u1.2.2.2.2.1 u1.2.2.2.2.2 o_told) := hD.sub [0, 1, 2, 3, 4, 5, 6, 7, 8, 9, 10, 11, 12, 13, 14, 15] rfl rfl
  refine lv_if_eq (tgt := 16) hx hb dX6_solve_4 (by decide) (fun c2 => ?_) (fun c2 => ?_)
  · have hf := if_t hf c2
    refine lv_bipush (v := (-13 : Int32)) hx hb dX6_solve_16 (by decide) ?_
    have hf := Option.some.inj hf
    subst hf
    exact rWi hc rfl hP hD hS dX6_solve_18
  · have hf := if_f hf c2
    refine lv_aload_n hx hb dX6_solve_7 rfl (lv_at hl 0 rfl) ?_
    refine va_get (D := D) (ci := 6) (v := .ref a12) (C := RX6) (T := TX6) (N := 24) hx hb hts inX6 hown hK hP 0 rfl rfl 19 (by decide) (hts _ q_673) (fun _ h9 => h9) rfl dX6_solve_8 ?_
    refine lv_iconst (v := (0 : Int32)) hx hb dX6_solve_11 (by decide) ?_
    refine va_iald hx hb hK hP 12 0 rfl rfl (okI_in (by decide)) dX6_solve_12 ?_
    refine lv_goto (tgt := 18) hx hb dX6_solve_13 (by decide) ?_
    have hf := Option.some.inj hf
    subst hf
    exact rWi hc rfl hP hD hS dX6_solve_18
abbrev R_X6_winning : Room := { frames := 5, cells := 0, slots := 0, locals := 118 }
def m_X6_winning_c63  (k4 : Int64 → Int32 → Option (Int64)) (v3 : Int32) (t0 : Int64) (t1 : Int64) : Option (Int64) := (k4 (t1 ||| t0) (v3 + (1 : Int32)))
set_option maxHeartbeats 4000000 in
set_option maxRecDepth 100000 in
theorem w_X6_winning_c63 {p : Program} {l : Launch} {e : Env} {s : State} {m : MethodId} {args : Array Value} {below : List Frame} {meth : Method} {c : Code} {D : va_G} {C : Nat → ClassId} {z0 : Nat} {z1 : Nat} {z2 : Nat} {z3 : Nat} {z4 : Nat} {o_n : Int32} {r_o_game : Nat} {o_all : Int32} {o_made : Int32} {o_own0 : Int64} {o_own1 : Int64} {r_o_kept : Nat} {r_o_isKept : Nat} {r_o_threatOf : Nat} {r_o_threatSet : Nat} {o_threatMany : Int32} {r_o_text : Nat} {o_length : Int32} {r_o_far : Nat} {r_o_back : Nat} {o_holes : Int32} {r_o_isWon : Nat} {r_o_lasts : Nat} {r_o_told : Nat} {o_tellings : Int32} {o_near : Nat → Int64} {o_power : Nat → Int32} {o_won : Nat → Int32} {o_hole : Nat → Int32} {o : Int64} (hc : Cx p s m args meth c yX6_winning cX6_winning 4 (some .long)) (hK : va_K D vwCl (TY C) s) (hP : va_P D vwCl [cX6 z0 o_n r_o_game o_all o_made o_own0 o_own1 z1 r_o_kept r_o_isKept r_o_threatOf r_o_threatSet o_threatMany r_o_text o_length r_o_far r_o_back z4 o_holes r_o_isWon z3 r_o_lasts z2 r_o_told o_tellings, aJ C z1 49 o_near, aI C z2 10 o_power, aI C z3 19683 o_won, aI C z4 49 o_hole] s.heap) (k4 : Int64 → Int32 → Option (Int64)) (hk4 : ∀ (v1 : Int64) (v3 : Int32), k4 v1 v3 = some o → ∀ (ls : Array Slot), lv_has ls 4 [(0, .ref z0), (1, .long v1), (3, .int v3)] → W p l e R_X6_winning s m args below meth c s.heap [] 0 0 (MQ below (vp_Sl (fun r => r = o)) args s 0 0 (fun _ => False)) (F0 m 4 ls [])) : ∀ (v3 : Int32) (t0 : Int64) (t1 : Int64), m_X6_winning_c63  k4 v3 t0 t1 = some o → ∀ (ls : Array Slot), lv_has ls 4 [(0, .ref z0), (3, .int v3)] → W p l e R_X6_winning s m args below meth c s.heap [] 0 0 (MQ below (vp_Sl (fun r => r = o)) args s 0 0 (fun _ => False)) (F0 m 63 ls [.long t0, .long t1]) := by
  have hx := hc.1
  have hb := hc.2.1
  have hown := hc.2.2.2.2.1
  have hts := hc.2.2.2.2.2.1
  intro v3 t0 t1 hf ls hl
  refine lv_lor hx hb dX6_winning_63 ?_
  refine lv_lstore_n (lv' := [(1, .long (t1 ||| t0)), (0, .ref z0), (3, .int v3)]) hx hb dX6_winning_64 rfl hl (by decide) rfl (fun ls hl => ?_)
  refine lv_iinc (v := (v3 + (1 : Int32))) (lv' := [(3, .int (v3 + (1 : Int32))), (1, .long (t1 ||| t0)), (0, .ref z0)]) hx hb dX6_winning_65 hl (k := 2) rfl rfl (by decide) rfl (fun ls hl => ?_)
  refine lv_goto (tgt := 4) hx hb dX6_winning_68 (by decide) ?_
  exact hk4 (t1 ||| t0) (v3 + (1 : Int32)) hf ls (lv_sub hl [2, 1, 0] rfl)
def m_X6_winning_c4 (o_n : Int32) (o_made : Int32) (o_own0 : Int64) (o_own1 : Int64) (o_holes : Int32) (o_near : Nat → Int64) (o_power : Nat → Int32) (o_won : Nat → Int32) (o_hole : Nat → Int32)  : Nat → Int64 → Int32 → Option (Int64)
  | 0, _, _ => none
  | n + 1, v1, v3 => (if o_holes ≤ v3 then some v1 else ((m_X6_winnerNow o_n o_own0 o_own1 o_near).bind fun u2 => (if u2 = (-15 : Int32) then (if okI v3 10 = true then (if okI (((jirem o_made (2 : Int32)) + (1 : Int32)) * (o_power v3.toNatClampNeg)) 19683 = true then (if (o_won (((jirem o_made (2 : Int32)) + (1 : Int32)) * (o_power v3.toNatClampNeg)).toNatClampNeg) = (jirem o_made (2 : Int32)) then (if okI v3 49 = true then (m_X6_winning_c63 (m_X6_winning_c4 o_n o_made o_own0 o_own1 o_holes o_near o_power o_won o_hole  n) v3 (jshl (1 : Int64) (o_hole v3.toNatClampNeg)) v1) else none) else (m_X6_winning_c63 (m_X6_winning_c4 o_n o_made o_own0 o_own1 o_holes o_near o_power o_won o_hole  n) v3 (0 : Int64) v1)) else none) else none) else some v1)))
set_option maxHeartbeats 4000000 in
set_option maxRecDepth 100000 in
theorem w_X6_winning_c4 {p : Program} {l : Launch} {e : Env} {s : State} {m : MethodId} {args : Array Value} {below : List Frame} {meth : Method} {c : Code} {D : va_G} {C : Nat → ClassId} {z0 : Nat} {z1 : Nat} {z2 : Nat} {z3 : Nat} {z4 : Nat} {o_n : Int32} {r_o_game : Nat} {o_all : Int32} {o_made : Int32} {o_own0 : Int64} {o_own1 : Int64} {r_o_kept : Nat} {r_o_isKept : Nat} {r_o_threatOf : Nat} {r_o_threatSet : Nat} {o_threatMany : Int32} {r_o_text : Nat} {o_length : Int32} {r_o_far : Nat} {r_o_back : Nat} {o_holes : Int32} {r_o_isWon : Nat} {r_o_lasts : Nat} {r_o_told : Nat} {o_tellings : Int32} {o_near : Nat → Int64} {o_power : Nat → Int32} {o_won : Nat → Int32} {o_hole : Nat → Int32} {o : Int64} (hc : Cx p s m args meth c yX6_winning cX6_winning 4 (some .long)) (hK : va_K D vwCl (TY C) s) (hP : va_P D vwCl [cX6 z0 o_n r_o_game o_all o_made o_own0 o_own1 z1 r_o_kept r_o_isKept r_o_threatOf r_o_threatSet o_threatMany r_o_text o_length r_o_far r_o_back z4 o_holes r_o_isWon z3 r_o_lasts z2 r_o_told o_tellings, aJ C z1 49 o_near, aI C z2 10 o_power, aI C z3 19683 o_won, aI C z4 49 o_hole] s.heap) : ∀ (n : Nat), ∀ (v1 : Int64) (v3 : Int32), m_X6_winning_c4 o_n o_made o_own0 o_own1 o_holes o_near o_power o_won o_hole  n v1 v3 = some o → ∀ (ls : Array Slot), lv_has ls 4 [(0, .ref z0), (1, .long v1), (3, .int v3)] → W p l e R_X6_winning s m args below meth c s.heap [] 0 0 (MQ below (vp_Sl (fun r => r = o)) args s 0 0 (fun _ => False)) (F0 m 4 ls []) := by
  have hx := hc.1
  have hb := hc.2.1
  have hown := hc.2.2.2.2.1
  have hts := hc.2.2.2.2.2.1
  intro n
  induction n with
  | zero =>
    intro v1 v3 hf
    exact no_some hf
  | succ n ih =>
    intro v1 v3 hf ls hl
    refine lv_iload_n hx hb dX6_winning_4 rfl (lv_at hl 2 rfl) ?_
    refine lv_aload_n hx hb dX6_winning_5 rfl (lv_at hl 0 rfl) ?_
    refine va_get (D := D) (ci := 6) (v := .int o_holes) (C := RX6) (T := TX6) (N := 24) hx hb hts inX6 hown hK hP 0 rfl rfl 17 (by decide) (hts _ q_671) (fun _ h9 => h9) rfl dX6_winning_6 ?_
    refine lv_icmp_ge (tgt := 71) hx hb dX6_winning_9 (by decide) (fun c1 => ?_) (fun c1 => ?_)
    · have hf := if_t hf c1
      refine lv_lload_n hx hb dX6_winning_71 rfl (lv_at hl 1 rfl) ?_
      exact rRl hc (Option.some.inj hf) dX6_winning_72
    · have hf := if_f hf c1
      refine lv_aload_n hx hb dX6_winning_12 rfl (lv_at hl 0 rfl) ?_
      obtain ⟨u2, hu2, hf⟩ := bind_some hf
      refine rcVi (As := []) (rest := []) hc k_X6_129 (c_X6_winnerNow l D C z0 z1 o_n r_o_game o_all o_made o_own0 o_own1 r_o_kept r_o_isKept r_o_threatOf r_o_threatSet o_threatMany r_o_text o_length r_o_far r_o_back z4 o_holes r_o_isWon z3 r_o_lasts z2 r_o_told o_tellings o_near  _ hu2) ⟨rfl, rfl, Nat.le_of_ble_eq_true rfl, Nat.le_of_ble_eq_true rfl⟩ (hP.sub [0, 1] rfl) hK (q0 := 0) rfl rfl rfl hl rfl rfl (Nat.le_of_ble_eq_true rfl) ⟨Nat.zero_le _, Nat.zero_le _⟩ dX6_winning_13 ?_
      refine lv_bipush (v := (-15 : Int32)) hx hb dX6_winning_16 (by decide) ?_
      refine lv_icmp_ne (tgt := 71) hx hb dX6_winning_18 (by decide) (fun c3 => ?_) (fun c3 => ?_)
      · have hf := if_f hf c3
        refine lv_lload_n hx hb dX6_winning_71 rfl (lv_at hl 1 rfl) ?_
        exact rRl hc (Option.some.inj hf) dX6_winning_72
      · have hf := if_t hf c3
        refine lv_lload_n hx hb dX6_winning_21 rfl (lv_at hl 1 rfl) ?_
        refine lv_aload_n hx hb dX6_winning_22 rfl (lv_at hl 0 rfl) ?_
        refine va_get (D := D) (ci := 6) (v := .ref z3) (C := RX6) (T := TX6) (N := 24) hx hb hts inX6 hown hK hP 0 rfl rfl 19 (by decide) (hts _ q_673) (fun _ h9 => h9) rfl dX6_winning_23 ?_
        refine lv_aload_n hx hb dX6_winning_26 rfl (lv_at hl 0 rfl) ?_
        refine va_get (D := D) (ci := 6) (v := .int o_made) (C := RX6) (T := TX6) (N := 24) hx hb hts inX6 hown hK hP 0 rfl rfl 3 (by decide) (hts _ q_657) (fun _ h9 => h9) rfl dX6_winning_27 ?_
        refine lv_iconst (v := (2 : Int32)) hx hb dX6_winning_30 (by decide) ?_
        refine lv_irem hx hb dX6_winning_31 (by decide) ?_
        refine lv_iconst (v := (1 : Int32)) hx hb dX6_winning_32 (by decide) ?_
        refine lv_iadd hx hb dX6_winning_33 ?_
        refine lv_aload_n hx hb dX6_winning_34 rfl (lv_at hl 0 rfl) ?_
        refine va_get (D := D) (ci := 6) (v := .ref z2) (C := RX6) (T := TX6) (N := 24) hx hb hts inX6 hown hK hP 0 rfl rfl 21 (by decide) (hts _ q_675) (fun _ h9 => h9) rfl dX6_winning_35 ?_
        refine lv_iload_n hx hb dX6_winning_38 rfl (lv_at hl 2 rfl) ?_
        obtain ⟨h4, hf⟩ := ok_t hf
        refine va_iald hx hb hK hP 2 0 rfl rfl (okI_in h4) dX6_winning_39 ?_
        refine lv_imul hx hb dX6_winning_40 ?_
        obtain ⟨h5, hf⟩ := ok_t hf
        refine va_iald hx hb hK hP 3 0 rfl rfl (okI_in h5) dX6_winning_41 ?_
        refine lv_aload_n hx hb dX6_winning_42 rfl (lv_at hl 0 rfl) ?_
        refine va_get (D := D) (ci := 6) (v := .int o_made) (C := RX6) (T := TX6) (N := 24) hx hb hts inX6 hown hK hP 0 rfl rfl 3 (by decide) (hts _ q_657) (fun _ h9 => h9) rfl dX6_winning_43 ?_
        refine lv_iconst (v := (2 : Int32)) hx hb dX6_winning_46 (by decide) ?_
        refine lv_irem hx hb dX6_winning_47 (by decide) ?_
        refine lv_icmp_ne (tgt := 62) hx hb dX6_winning_48 (by decide) (fun c6 => ?_) (fun c6 => ?_)
        · have hf := if_f hf c6
          refine lv_lconst (v := (0 : Int64)) hx hb dX6_winning_62 (by decide) ?_
          exact w_X6_winning_c63 hc hK hP (m_X6_winning_c4 o_n o_made o_own0 o_own1 o_holes o_near o_power o_won o_hole  n) ih v3 (0 : Int64) v1 hf ls (lv_sub hl [0, 2] rfl)
        · have hf := if_t hf c6
          refine lv_lconst (v := (1 : Int64)) hx hb dX6_winning_51 (by decide) ?_
          refine lv_aload_n hx hb dX6_winning_52 rfl (lv_at hl 0 rfl) ?_
          refine va_get (D := D) (ci := 6) (v := .ref z4) (C := RX6) (T := TX6) (N := 24) hx hb hts inX6 hown hK hP 0 rfl rfl 16 (by decide) (hts _ q_670) (fun _ h9 => h9) rfl dX6_winning_53 ?_
          refine lv_iload_n hx hb dX6_winning_56 rfl (lv_at hl 2 rfl) ?_
          obtain ⟨h7, hf⟩ := ok_t hf
          refine va_iald hx hb hK hP 4 0 rfl rfl (okI_in h7) dX6_winning_57 ?_
          refine lv_lshl (v := (jshl (1 : Int64) (o_hole v3.toNatClampNeg))) hx hb dX6_winning_58 rfl ?_
          refine lv_goto (tgt := 63) hx hb dX6_winning_59 (by decide) ?_
          exact w_X6_winning_c63 hc hK hP (m_X6_winning_c4 o_n o_made o_own0 o_own1 o_holes o_near o_power o_won o_hole  n) ih v3 (jshl (1 : Int64) (o_hole v3.toNatClampNeg)) v1 hf ls (lv_sub hl [0, 2] rfl)
def m_X6_winning (o_n : Int32) (o_made : Int32) (o_own0 : Int64) (o_own1 : Int64) (o_holes : Int32) (o_near : Nat → Int64) (o_power : Nat → Int32) (o_won : Nat → Int32) (o_hole : Nat → Int32) : Option (Int64) := (m_X6_winning_c4 o_n o_made o_own0 o_own1 o_holes o_near o_power o_won o_hole FU (0 : Int64) (0 : Int32))
set_option maxHeartbeats 4000000 in
set_option maxRecDepth 100000 in
theorem c_X6_winning (l : Launch) (D : va_G) (C : Nat → ClassId) (z0 : Nat) (z1 : Nat) (z2 : Nat) (z3 : Nat) (z4 : Nat) (o_n : Int32) (r_o_game : Nat) (o_all : Int32) (o_made : Int32) (o_own0 : Int64) (o_own1 : Int64) (r_o_kept : Nat) (r_o_isKept : Nat) (r_o_threatOf : Nat) (r_o_threatSet : Nat) (o_threatMany : Int32) (r_o_text : Nat) (o_length : Int32) (r_o_far : Nat) (r_o_back : Nat) (o_holes : Int32) (r_o_isWon : Nat) (r_o_lasts : Nat) (r_o_told : Nat) (o_tellings : Int32) (o_near : Nat → Int64) (o_power : Nat → Int32) (o_won : Nat → Int32) (o_hole : Nat → Int32) (o : Int64) (hf : m_X6_winning o_n o_made o_own0 o_own1 o_holes o_near o_power o_won o_hole = some o) : Met l yX6_winning (wl yX6_winning cX6_winning 4 (some .long)) R_X6_winning (PR [.ref z0] D C [cX6 z0 o_n r_o_game o_all o_made o_own0 o_own1 z1 r_o_kept r_o_isKept r_o_threatOf r_o_threatSet o_threatMany r_o_text o_length r_o_far r_o_back z4 o_holes r_o_isWon z3 r_o_lasts z2 r_o_told o_tellings, aJ C z1 49 o_near, aI C z2 10 o_power, aI C z3 19683 o_won, aI C z4 49 o_hole]) (vp_Sl (fun r => r = o)) 0 0 (fun _ => False) := by
  refine Met_ofC (by decide) ?_
  intro p e s m args below meth c hc hv
  obtain ⟨rfl, hP, hK⟩ := hv
  have hx := hc.1
  have hb := hc.2.1
  have hown := hc.2.2.2.2.1
  have hts := hc.2.2.2.2.2.1
  refine en_F rfl (fun ls hl => ?_)
  have hl : lv_has ls 4 [(0, .ref z0)] := hl
  refine lv_lconst (v := (0 : Int64)) hx hb dX6_winning_0 (by decide) ?_
  refine lv_lstore_n (lv' := [(1, .long (0 : Int64)), (0, .ref z0)]) hx hb dX6_winning_1 rfl hl (by decide) rfl (fun ls hl => ?_)
  refine lv_iconst (v := (0 : Int32)) hx hb dX6_winning_2 (by decide) ?_
  refine lv_istore_n (lv' := [(3, .int (0 : Int32)), (1, .long (0 : Int64)), (0, .ref z0)]) hx hb dX6_winning_3 rfl hl (by decide) rfl (fun ls hl => ?_)
  exact w_X6_winning_c4 hc hK hP  FU (0 : Int64) (0 : Int32) hf ls (lv_sub hl [2, 1, 0] rfl)
abbrev R_X6_winningMoves : Room := { frames := 6, cells := 0, slots := 0, locals := 141 }
def m_X6_winningMoves (o_n : Int32) (o_made : Int32) (o_own0 : Int64) (o_own1 : Int64) (o_near : Nat → Int64) (o_hole : Nat → Int32) (o_won : Nat → Int32) (o_lasts : Nat → Int32) (o_power : Nat → Int32) : Option (Int64 × Int32 × (Nat → Int32) × (Nat → Int32) × (Nat → Int32) × (Nat → Int32)) := ((m_X6_solves o_n o_made o_own0 o_own1 o_near o_hole o_won o_lasts o_power).bind fun u1 => (if u1.1 = 0 then some ((-13 : Int64), u1.2.1, u1.2.2.1, u1.2.2.2.1, u1.2.2.2.2.1, u1.2.2.2.2.2) else ((m_X6_winning o_n o_made o_own0 o_own1 u1.2.1 o_near u1.2.2.2.2.2 u1.2.2.2.1 u1.2.2.1).bind fun u3 => some (u3, u1.2.1, u1.2.2.1, u1.2.2.2.1, u1.2.2.2.2.1, u1.2.2.2.2.2))))
set_option maxHeartbeats 4000000 in
set_option maxRecDepth 100000 in
theorem c_X6_winningMoves (l : Launch) (D : va_G) (C : Nat → ClassId) (sz : Nat) (a0 : Nat) (a1 : Nat) (a2 : Nat) (a3 : Nat) (a4 : Nat) (a5 : Nat) (a6 : Nat) (a7 : Nat) (a8 : Nat) (a9 : Nat) (a10 : Nat) (a11 : Nat) (a12 : Nat) (a13 : Nat) (a14 : Nat) (a15 : Nat) (o_n : Int32) (o_all : Int32) (o_made : Int32) (o_own0 : Int64) (o_own1 : Int64) (o_threatMany : Int32) (o_length : Int32) (o_holes : Int32) (o_tellings : Int32) (o_game : Nat → Int32) (o_near : Nat → Int64) (o_kept : Nat → Int32) (o_isKept : Nat → Int32) (o_threatOf : Nat → Int32) (o_threatSet : Nat → Int64) (o_text : Nat → Int32) (o_far : Nat → Int32) (o_back : Nat → Int32) (o_hole : Nat → Int32) (o_isWon : Nat → Int32) (o_won : Nat → Int32) (o_lasts : Nat → Int32) (o_power : Nat → Int32) (o_told : Nat → Int32) (o : Int64 × Int32 × (Nat → Int32) × (Nat → Int32) × (Nat → Int32) × (Nat → Int32)) (hf : m_X6_winningMoves o_n o_made o_own0 o_own1 o_near o_hole o_won o_lasts o_power = some o) : Met l yX6_winningMoves (wl yX6_winningMoves cX6_winningMoves 1 (some .long)) R_X6_winningMoves (PW [.ref a0] D C sz (wX6 C a0 a1 a2 a3 a4 a5 a6 a7 a8 a9 a10 a11 a12 a13 a14 a15 o_n o_all o_made o_own0 o_own1 o_threatMany o_length o_holes o_tellings o_game o_near o_kept o_isKept o_threatOf o_threatSet o_text o_far o_back o_hole o_isWon o_won o_lasts o_power o_told) ([] : va_W)) (QWl D o.1 (wX6 C a0 a1 a2 a3 a4 a5 a6 a7 a8 a9 a10 a11 a12 a13 a14 a15 o_n o_all o_made o_own0 o_own1 o_threatMany o_length o.2.1 o_tellings o_game o_near o_kept o_isKept o_threatOf o_threatSet o_text o_far o_back o.2.2.1 o_isWon o.2.2.2.1 o.2.2.2.2.1 o.2.2.2.2.2 o_told) (va_A (wX6 C a0 a1 a2 a3 a4 a5 a6 a7 a8 a9 a10 a11 a12 a13 a14 a15 o_n o_all o_made o_own0 o_own1 o_threatMany o_length o_holes o_tellings o_game o_near o_kept o_isKept o_threatOf o_threatSet o_text o_far o_back o_hole o_isWon o_won o_lasts o_power o_told) sz)) 0 0 (va_A (wX6 C a0 a1 a2 a3 a4 a5 a6 a7 a8 a9 a10 a11 a12 a13 a14 a15 o_n o_all o_made o_own0 o_own1 o_threatMany o_length o_holes o_tellings o_game o_near o_kept o_isKept o_threatOf o_threatSet o_text o_far o_back o_hole o_isWon o_won o_lasts o_power o_told) sz) := by
  refine Met_ofC (by decide) ?_
  intro p e s m args below meth c hc hv
  obtain ⟨rfl, hsz, hP, hK, hD0, hO, hN0⟩ := hv
  subst hsz
  have hD := hD0.self (sz := s.heap.size)
  have hN : ∀ q ∈ ([] : va_W), ¬ va_A (wX6 C a0 a1 a2 a3 a4 a5 a6 a7 a8 a9 a10 a11 a12 a13 a14 a15 o_n o_all o_made o_own0 o_own1 o_threatMany o_length o_holes o_tellings o_game o_near o_kept o_isKept o_threatOf o_threatSet o_text o_far o_back o_hole o_isWon o_won o_lasts o_power o_told) s.heap.size q.1 := hN0
  generalize hAe : va_A (wX6 C a0 a1 a2 a3 a4 a5 a6 a7 a8 a9 a10 a11 a12 a13 a14 a15 o_n o_all o_made o_own0 o_own1 o_threatMany o_length o_holes o_tellings o_game o_near o_kept o_isKept o_threatOf o_threatSet o_text o_far o_back o_hole o_isWon o_won o_lasts o_power o_told) s.heap.size = A at hD hN ⊢
  have hA : ∀ q : Nat, s.heap.size ≤ q → A q := fun q h => by rw [← hAe]; exact Or.inr h
  have hS : va_S A s.heap s.heap [] := va_S.rf
  have hx := hc.1
  have hb := hc.2.1
  have hown := hc.2.2.2.2.1
  have hts := hc.2.2.2.2.2.1
  refine en_F rfl (fun ls hl => ?_)
  have hl : lv_has ls 1 [(0, .ref a0)] := hl
  refine lv_aload_n hx hb dX6_winningMoves_0 rfl (lv_at hl 0 rfl) ?_
  obtain ⟨u1, hu1, hf⟩ := bind_some hf
  refine wcVi (A := A) (wc := wX6 C a0 a1 a2 a3 a4 a5 a6 a7 a8 a9 a10 a11 a12 a13 a14 a15 o_n o_all o_made o_own0 o_own1 o_threatMany o_length o_holes o_tellings o_game o_near o_kept o_isKept o_threatOf o_threatSet o_text o_far o_back o_hole o_isWon o_won o_lasts o_power o_told) (w1 := wX6 C a0 a1 a2 a3 a4 a5 a6 a7 a8 a9 a10 a11 a12 a13 a14 a15 o_n o_all o_made o_own0 o_own1 o_threatMany o_length u1.2.1 o_tellings o_game o_near o_kept o_isKept o_threatOf o_threatSet o_text o_far o_back u1.2.2.1 o_isWon u1.2.2.2.1 u1.2.2.2.2.1 u1.2.2.2.2.2 o_told) (rc := []) (As := []) (rest := []) hc k_X6_210 (c_X6_solves l D C _ a0 a1 a2 a3 a4 a5 a6 a7 a8 a9 a10 a11 a12 a13 a14 a15 o_n o_all o_made o_own0 o_own1 o_threatMany o_length o_holes o_tellings o_game o_near o_kept o_isKept o_threatOf o_threatSet o_text o_far o_back o_hole o_isWon o_won o_lasts o_power o_told  _ hu1) ⟨rfl, rfl, Nat.le_of_ble_eq_true rfl, Nat.le_of_ble_eq_true rfl⟩ hP hD hS hA hK [0, 1, 2, 3, 4, 5, 6, 7, 8, 9, 10, 11, 12, 13, 14, 15] [] rfl rfl rfl rfl (by decide) (hP.sub [] rfl) Ap_nil (q0 := 0) rfl rfl rfl hl rfl rfl (Nat.le_of_ble_eq_true rfl) ⟨Nat.zero_le _, Nat.zero_le _⟩ dX6_winningMoves_1 (fun H locs hP hD hS => ?_)
  have hP : va_P D vwCl (wX6 C a0 a1 a2 a3 a4 a5 a6 a7 a8 a9 a10 a11 a12 a13 a14 a15 o_n o_all o_made o_own0 o_own1 o_threatMany o_length u1.2.1 o_tellings o_game o_near o_kept o_isKept o_threatOf o_threatSet o_text o_far o_back u1.2.2.1 o_isWon u1.2.2.2.1 u1.2.2.2.2.1 u1.2.2.2.2.2 o_told) H := hP.sub [0, 1, 2, 3, 4, 5, 6, 7, 8, 9, 10, 11, 12, 13, 14, 15] rfl
  have hD : va_D A (wX6 C a0 a1 a2 a3 a4 a5 a6 a7 a8 a9 a10 a11 a12 a13 a14 a15 o_n o_all o_made o_own0 o_own1 o_threatMany o_length u1.2.1 o_tellings o_game o_near o_kept o_isKept o_threatOf o_threatSet o_text o_far o_back u1.2.2.1 o_isWon u1.2.2.2.1 u1.2.2.2.2.1 u1.2.2.2.2.2 o_told) := hD.sub [0, 1, 2, 3, 4, 5, 6, 7, 8, 9, 10, 11, 12, 13, 14, 15] rfl rfl
  refine lv_if_eq (tgt := 14) hx hb dX6_winningMoves_4 (by decide) (fun c2 => ?_) (fun c2 => ?_)
  · have hf := if_t hf c2
    refine lv_ldc2 (v := (-13 : Int64)) hx hb hown (hts _ q_924) dX6_winningMoves_14 ?_
    have hf := Option.some.inj hf
    subst hf
    exact rWl hc rfl hP hD hS dX6_winningMoves_17
  · have hf := if_f hf c2
    refine lv_aload_n hx hb dX6_winningMoves_7 rfl (lv_at hl 0 rfl) ?_
    obtain ⟨u3, hu3, hf⟩ := bind_some hf
    refine rcVl (As := []) (rest := []) hc k_X6_213 (c_X6_winning l D C a0 a2 a14 a12 a10 o_n a1 o_all o_made o_own0 o_own1 a3 a4 a5 a6 o_threatMany a7 o_length a8 a9 u1.2.1 a11 a13 a15 o_tellings o_near u1.2.2.2.2.2 u1.2.2.2.1 u1.2.2.1  _ hu3) ⟨rfl, rfl, Nat.le_of_ble_eq_true rfl, Nat.le_of_ble_eq_true rfl⟩ (hP.sub [0, 2, 14, 12, 10] rfl) hK (q0 := 0) rfl rfl rfl hl rfl rfl (Nat.le_of_ble_eq_true rfl) ⟨Nat.zero_le _, Nat.zero_le _⟩ dX6_winningMoves_8 ?_
    refine lv_goto (tgt := 17) hx hb dX6_winningMoves_11 (by decide) ?_
    have hf := Option.some.inj hf
    subst hf
    exact rWl hc rfl hP hD hS dX6_winningMoves_17

abbrev R_X4_nextLayer : Room := { frames := 3, cells := 0, slots := 0, locals := 81 }
def m_X4_nextLayer (p0_size : Int32) (p0_cells : Int32) (p0_all : Int64) (p0_left : Int64) (p0_right : Int64) (p1 : Int64) (p2 : Int64) (p3 : Int64) (p4 : Int64) : Option (Int64) := ((m_X0_flood p0_size p0_cells p0_all p0_left p0_right (p1 ||| ((p2 ||| (m_X0_around p0_size p0_all p0_left p0_right p1)) &&& p4)) ((p1 ||| ((p2 ||| (m_X0_around p0_size p0_all p0_left p0_right p1)) &&& p4)) ||| p3)).bind fun u1 => some u1)
set_option maxHeartbeats 4000000 in
set_option maxRecDepth 100000 in
theorem c_X4_nextLayer (l : Launch) (D : va_G) (C : Nat → ClassId) (z0 : Nat) (p0_size : Int32) (p0_cells : Int32) (p0_all : Int64) (p0_upper : Int64) (p0_lower : Int64) (p0_left : Int64) (p0_right : Int64) (p1 : Int64) (p2 : Int64) (p3 : Int64) (p4 : Int64) (o : Int64) (hf : m_X4_nextLayer p0_size p0_cells p0_all p0_left p0_right p1 p2 p3 p4 = some o) : Met l yX4_nextLayer (wl yX4_nextLayer cX4_nextLayer 11 (some .long)) R_X4_nextLayer (PR [.ref z0, .long p1, .long p2, .long p3, .long p4] D C [cX0 z0 p0_size p0_cells p0_all p0_upper p0_lower p0_left p0_right]) (vp_Sl (fun r => r = o)) 0 0 (fun _ => False) := by
  refine Met_ofC (by decide) ?_
  intro p e s m args below meth c hc hv
  obtain ⟨rfl, hP, hK⟩ := hv
  have hx := hc.1
  have hb := hc.2.1
  have hown := hc.2.2.2.2.1
  have hts := hc.2.2.2.2.2.1
  refine en_F rfl (fun ls hl => ?_)
  have hl : lv_has ls 11 [(0, .ref z0), (1, .long p1), (3, .long p2), (5, .long p3), (7, .long p4)] := hl
  refine lv_lload_n hx hb dX4_nextLayer_0 rfl (lv_at hl 1 rfl) ?_
  refine lv_lload_n hx hb dX4_nextLayer_1 rfl (lv_at hl 2 rfl) ?_
  refine lv_aload_n hx hb dX4_nextLayer_2 rfl (lv_at hl 0 rfl) ?_
  refine lv_lload_n hx hb dX4_nextLayer_3 rfl (lv_at hl 1 rfl) ?_
  refine rcVl (As := [.long p1]) (rest := [.long p2, .long p1]) hc k_X4_45 (c_X0_around l D C z0 p0_size p0_cells p0_all p0_upper p0_lower p0_left p0_right p1  _ rfl) ⟨rfl, rfl, Nat.le_of_ble_eq_true rfl, Nat.le_of_ble_eq_true rfl⟩ (hP.sub [0] rfl) hK (q0 := 0) rfl rfl rfl hl rfl rfl (Nat.le_of_ble_eq_true rfl) ⟨Nat.zero_le _, Nat.zero_le _⟩ dX4_nextLayer_4 ?_
  refine lv_lor hx hb dX4_nextLayer_7 ?_
  refine lv_lload hx hb dX4_nextLayer_8 (lv_at hl 4 rfl) ?_
  refine lv_land hx hb dX4_nextLayer_10 ?_
  refine lv_lor hx hb dX4_nextLayer_11 ?_
  refine lv_lstore (lv' := [(9, .long (p1 ||| ((p2 ||| (m_X0_around p0_size p0_all p0_left p0_right p1)) &&& p4))), (0, .ref z0), (1, .long p1), (3, .long p2), (5, .long p3), (7, .long p4)]) hx hb dX4_nextLayer_12 hl (by decide) rfl (fun ls hl => ?_)
  refine lv_aload_n hx hb dX4_nextLayer_14 rfl (lv_at hl 1 rfl) ?_
  refine lv_lload hx hb dX4_nextLayer_15 (lv_at hl 0 rfl) ?_
  refine lv_lload hx hb dX4_nextLayer_17 (lv_at hl 0 rfl) ?_
  refine lv_lload hx hb dX4_nextLayer_19 (lv_at hl 4 rfl) ?_
  refine lv_lor hx hb dX4_nextLayer_21 ?_
  obtain ⟨u1, hu1, hf⟩ := bind_some hf
  refine rcVl (As := [.long (p1 ||| ((p2 ||| (m_X0_around p0_size p0_all p0_left p0_right p1)) &&& p4)), .long ((p1 ||| ((p2 ||| (m_X0_around p0_size p0_all p0_left p0_right p1)) &&& p4)) ||| p3)]) (rest := []) hc k_X4_30 (c_X0_flood l D C z0 p0_size p0_cells p0_all p0_upper p0_lower p0_left p0_right (p1 ||| ((p2 ||| (m_X0_around p0_size p0_all p0_left p0_right p1)) &&& p4)) ((p1 ||| ((p2 ||| (m_X0_around p0_size p0_all p0_left p0_right p1)) &&& p4)) ||| p3)  _ hu1) ⟨rfl, rfl, Nat.le_of_ble_eq_true rfl, Nat.le_of_ble_eq_true rfl⟩ (hP.sub [0] rfl) hK (q0 := 0) rfl rfl rfl hl rfl rfl (Nat.le_of_ble_eq_true rfl) ⟨Nat.zero_le _, Nat.zero_le _⟩ dX4_nextLayer_22 ?_
  exact rRl hc (Option.some.inj hf) dX4_nextLayer_25
abbrev R_X4_measure : Room := { frames := 4, cells := 0, slots := 0, locals := 111 }
def m_X4_measure_c32 (p1_stones0 : Int64) (p1_stones1 : Int64) (p1_board_size : Int32) (p1_board_cells : Int32) (p1_board_all : Int64) (p1_board_lower : Int64) (p1_board_left : Int64) (p1_board_right : Int64) (p2 : Int32)  : Nat → Int64 → Int64 → Int64 → Int32 → (Nat → Int64) → Option (Int32 × (Nat → Int64))
  | 0, _, _, _, _, _ => none
  | n + 1, v4, v6, v8, v10, o_layers => (if (49 : Int32) < v10 then some ((-15 : Int32), o_layers) else (if okI v10 50 = true then (if (v8 &&& (m_X0_secondEdge p1_board_lower p1_board_right p2)) = (0 : Int64) then ((m_X4_nextLayer p1_board_size p1_board_cells p1_board_all p1_board_left p1_board_right v8 v6 v4 (m_X3_free p1_stones0 p1_stones1 p1_board_all)).bind fun u5 => (m_X4_measure_c32 p1_stones0 p1_stones1 p1_board_size p1_board_cells p1_board_all p1_board_lower p1_board_left p1_board_right p2  n v4 v6 u5 (v10 + (1 : Int32)) (vp_updL o_layers v10.toNatClampNeg v8))) else some (v10, (vp_updL o_layers v10.toNatClampNeg v8))) else none))
set_option maxHeartbeats 4000000 in
set_option maxRecDepth 100000 in
theorem w_X4_measure_c32 {p : Program} {l : Launch} {e : Env} {s : State} {m : MethodId} {args : Array Value} {below : List Frame} {meth : Method} {c : Code} {D : va_G} {C : Nat → ClassId} {A : Nat → Prop} {a0 : Nat} {a1 : Nat} {z0 : Nat} {z1 : Nat} {p1_made : Int32} {p1_known : Int32} {r_p1_list : Nat} {p1_stones0 : Int64} {p1_stones1 : Int64} {p1_board_size : Int32} {p1_board_cells : Int32} {p1_board_all : Int64} {p1_board_upper : Int64} {p1_board_lower : Int64} {p1_board_left : Int64} {p1_board_right : Int64} {p2 : Int32} {o : Int32 × (Nat → Int64)} (hc : Cx p s m args meth c yX4_measure cX4_measure 11 (some .int)) (hK : va_K D vwCl (TY C) s) (hA : ∀ q : Nat, s.heap.size ≤ q → A q) (hO : va_P D vwCl [cX3 z0 z1 p1_made p1_known r_p1_list p1_stones0 p1_stones1, cX0 z1 p1_board_size p1_board_cells p1_board_all p1_board_upper p1_board_lower p1_board_left p1_board_right] s.heap) (hN : ∀ q ∈ [cX3 z0 z1 p1_made p1_known r_p1_list p1_stones0 p1_stones1, cX0 z1 p1_board_size p1_board_cells p1_board_all p1_board_upper p1_board_lower p1_board_left p1_board_right], ¬ A q.1) : ∀ (n : Nat), ∀ (v4 : Int64) (v6 : Int64) (v8 : Int64) (v10 : Int32) (o_layers : Nat → Int64), m_X4_measure_c32 p1_stones0 p1_stones1 p1_board_size p1_board_cells p1_board_all p1_board_lower p1_board_left p1_board_right p2  n v4 v6 v8 v10 o_layers = some o → ∀ (H : Heap) (locs : List Loc), va_P D vwCl ([cX4 a0 a1, aJ C a1 50 o_layers]) H → va_D A ([cX4 a0 a1, aJ C a1 50 o_layers]) → va_S A s.heap H locs → ∀ (ls : Array Slot), lv_has ls 11 [(0, .ref a0), (1, .ref z0), (2, .int p2), (3, .ref z1), (4, .long v4), (6, .long v6), (8, .long v8), (10, .int v10)] → W p l e R_X4_measure s m args below meth c H locs 0 0 (MQ below (QWi D o.1 ([cX4 a0 a1, aJ C a1 50 o.2]) A) args s 0 0 A) (F0 m 32 ls []) := by
  have hx := hc.1
  have hb := hc.2.1
  have hown := hc.2.2.2.2.1
  have hts := hc.2.2.2.2.2.1
  intro n
  induction n with
  | zero =>
    intro v4 v6 v8 v10 o_layers hf
    exact no_some hf
  | succ n ih =>
    intro v4 v6 v8 v10 o_layers hf H locs hP hD hS ls hl
    refine lv_iload hx hb dX4_measure_32 (lv_at hl 7 rfl) ?_
    refine lv_bipush (v := (49 : Int32)) hx hb dX4_measure_34 (by decide) ?_
    refine lv_icmp_gt (tgt := 86) hx hb dX4_measure_36 (by decide) (fun c2 => ?_) (fun c2 => ?_)
    · have hf := if_t hf c2
      refine lv_bipush (v := (-15 : Int32)) hx hb dX4_measure_86 (by decide) ?_
      have hf := Option.some.inj hf
      subst hf
      exact rWi hc rfl hP hD hS dX4_measure_88
    · have hf := if_f hf c2
      refine lv_aload_n hx hb dX4_measure_39 rfl (lv_at hl 0 rfl) ?_
      refine va_get (D := D) (ci := 4) (v := .ref a1) (C := RX4) (T := TX4) (N := 1) hx hb hts inX4 hown hK hP 0 rfl rfl 0 (by decide) (hts _ q_26) (fun _ h9 => h9) rfl dX4_measure_40 ?_
      refine lv_iload hx hb dX4_measure_43 (lv_at hl 7 rfl) ?_
      refine lv_lload hx hb dX4_measure_45 (lv_at hl 6 rfl) ?_
      obtain ⟨h3, hf⟩ := ok_t hf
      refine va_last hx hb hK hP hD hS 1 1 rfl rfl (okI_in h3) dX4_measure_47 (fun H locs hP hD hS => ?_)
      have hP : va_P D vwCl ([cX4 a0 a1, aJ C a1 50 (vp_updL o_layers v10.toNatClampNeg v8)]) H := hP
      have hD : va_D A ([cX4 a0 a1, aJ C a1 50 (vp_updL o_layers v10.toNatClampNeg v8)]) := hD
      refine lv_lload hx hb dX4_measure_48 (lv_at hl 6 rfl) ?_
      refine lv_aload_n hx hb dX4_measure_50 rfl (lv_at hl 3 rfl) ?_
      refine lv_iload_n hx hb dX4_measure_51 rfl (lv_at hl 2 rfl) ?_
      refine rcVl (As := [.int p2]) (rest := [.long v8]) hc k_X4_34 (c_X0_secondEdge l D C z1 p1_board_size p1_board_cells p1_board_all p1_board_upper p1_board_lower p1_board_left p1_board_right p2  _ rfl) ⟨rfl, rfl, Nat.le_of_ble_eq_true rfl, Nat.le_of_ble_eq_true rfl⟩ ((hP.app (ro_S hO hN hS)).sub [3] rfl) hK (q0 := 0) rfl rfl rfl hl rfl rfl (Nat.le_of_ble_eq_true rfl) ⟨Nat.zero_le _, Nat.zero_le _⟩ dX4_measure_52 ?_
      refine lv_land hx hb dX4_measure_55 ?_
      refine lv_lconst (v := (0 : Int64)) hx hb dX4_measure_56 (by decide) ?_
      refine lc_eq (tgt := 64) hx hb dX4_measure_57 dX4_measure_58 (by decide) (fun c4 => ?_) (fun c4 => ?_)
      · have hf := if_t hf c4
        refine lv_aload_n hx hb dX4_measure_64 rfl (lv_at hl 3 rfl) ?_
        refine lv_lload hx hb dX4_measure_65 (lv_at hl 6 rfl) ?_
        refine lv_lload hx hb dX4_measure_67 (lv_at hl 5 rfl) ?_
        refine lv_lload hx hb dX4_measure_69 (lv_at hl 4 rfl) ?_
        refine lv_aload_n hx hb dX4_measure_71 rfl (lv_at hl 1 rfl) ?_
        refine rcVl (As := []) (rest := [.long v4, .long v6, .long v8, .ref z1]) hc k_X4_37 (c_X3_free l D C z0 z1 p1_made p1_known r_p1_list p1_stones0 p1_stones1 p1_board_size p1_board_cells p1_board_all p1_board_upper p1_board_lower p1_board_left p1_board_right  _ rfl) ⟨rfl, rfl, Nat.le_of_ble_eq_true rfl, Nat.le_of_ble_eq_true rfl⟩ ((hP.app (ro_S hO hN hS)).sub [2, 3] rfl) hK (q0 := 0) rfl rfl rfl hl rfl rfl (Nat.le_of_ble_eq_true rfl) ⟨Nat.zero_le _, Nat.zero_le _⟩ dX4_measure_72 ?_
        obtain ⟨u5, hu5, hf⟩ := bind_some hf
        refine rcSl (As := [.ref z1, .long v8, .long v6, .long v4, .long (m_X3_free p1_stones0 p1_stones1 p1_board_all)]) (rest := []) hc k_X4_41 (c_X4_nextLayer l D C z1 p1_board_size p1_board_cells p1_board_all p1_board_upper p1_board_lower p1_board_left p1_board_right v8 v6 v4 (m_X3_free p1_stones0 p1_stones1 p1_board_all)  _ hu5) ⟨rfl, rfl, Nat.le_of_ble_eq_true rfl, Nat.le_of_ble_eq_true rfl⟩ ((hP.app (ro_S hO hN hS)).sub [3] rfl) hK hl rfl rfl (Nat.le_of_ble_eq_true rfl) ⟨Nat.zero_le _, Nat.zero_le _⟩ dX4_measure_75 ?_
        refine lv_lstore (lv' := [(8, .long u5), (0, .ref a0), (1, .ref z0), (2, .int p2), (3, .ref z1), (4, .long v4), (6, .long v6), (10, .int v10)]) hx hb dX4_measure_78 hl (by decide) rfl (fun ls hl => ?_)
        refine lv_iinc (v := (v10 + (1 : Int32))) (lv' := [(10, .int (v10 + (1 : Int32))), (8, .long u5), (0, .ref a0), (1, .ref z0), (2, .int p2), (3, .ref z1), (4, .long v4), (6, .long v6)]) hx hb dX4_measure_80 hl (k := 7) rfl rfl (by decide) rfl (fun ls hl => ?_)
        refine lv_goto (tgt := 32) hx hb dX4_measure_83 (by decide) ?_
        exact ih v4 v6 u5 (v10 + (1 : Int32)) (vp_updL o_layers v10.toNatClampNeg v8) hf _ _ hP hD hS ls (lv_sub hl [2, 3, 4, 5, 6, 7, 1, 0] rfl)
      · have hf := if_f hf c4
        refine lv_iload hx hb dX4_measure_61 (lv_at hl 7 rfl) ?_
        have hf := Option.some.inj hf
        subst hf
        exact rWi hc rfl hP hD hS dX4_measure_63
def m_X4_measure (o_layers : Nat → Int64) (p1_stones0 : Int64) (p1_stones1 : Int64) (p1_board_size : Int32) (p1_board_cells : Int32) (p1_board_all : Int64) (p1_board_upper : Int64) (p1_board_lower : Int64) (p1_board_left : Int64) (p1_board_right : Int64) (p2 : Int32) : Option (Int32 × (Nat → Int64)) := ((m_X0_flood p1_board_size p1_board_cells p1_board_all p1_board_left p1_board_right (m_X0_firstEdge p1_board_upper p1_board_left p2) (m_X3_stonesOf p1_stones0 p1_stones1 p2)).bind fun u1 => (m_X4_measure_c32 p1_stones0 p1_stones1 p1_board_size p1_board_cells p1_board_all p1_board_lower p1_board_left p1_board_right p2 FU (m_X3_stonesOf p1_stones0 p1_stones1 p2) (m_X0_firstEdge p1_board_upper p1_board_left p2) u1 (0 : Int32) o_layers))
set_option maxHeartbeats 4000000 in
set_option maxRecDepth 100000 in
theorem c_X4_measure (l : Launch) (D : va_G) (C : Nat → ClassId) (sz : Nat) (a0 : Nat) (a1 : Nat) (z0 : Nat) (z1 : Nat) (o_layers : Nat → Int64) (p1_made : Int32) (p1_known : Int32) (r_p1_list : Nat) (p1_stones0 : Int64) (p1_stones1 : Int64) (p1_board_size : Int32) (p1_board_cells : Int32) (p1_board_all : Int64) (p1_board_upper : Int64) (p1_board_lower : Int64) (p1_board_left : Int64) (p1_board_right : Int64) (p2 : Int32) (o : Int32 × (Nat → Int64)) (hf : m_X4_measure o_layers p1_stones0 p1_stones1 p1_board_size p1_board_cells p1_board_all p1_board_upper p1_board_lower p1_board_left p1_board_right p2 = some o) : Met l yX4_measure (wl yX4_measure cX4_measure 11 (some .int)) R_X4_measure (PW [.ref a0, .ref z0, .int p2] D C sz ([cX4 a0 a1, aJ C a1 50 o_layers]) [cX3 z0 z1 p1_made p1_known r_p1_list p1_stones0 p1_stones1, cX0 z1 p1_board_size p1_board_cells p1_board_all p1_board_upper p1_board_lower p1_board_left p1_board_right]) (QWi D o.1 ([cX4 a0 a1, aJ C a1 50 o.2]) (va_A ([cX4 a0 a1, aJ C a1 50 o_layers]) sz)) 0 0 (va_A ([cX4 a0 a1, aJ C a1 50 o_layers]) sz) := by
  refine Met_ofC (by decide) ?_
  intro p e s m args below meth c hc hv
  obtain ⟨rfl, hsz, hP, hK, hD0, hO, hN0⟩ := hv
  subst hsz
  have hD := hD0.self (sz := s.heap.size)
  have hN : ∀ q ∈ [cX3 z0 z1 p1_made p1_known r_p1_list p1_stones0 p1_stones1, cX0 z1 p1_board_size p1_board_cells p1_board_all p1_board_upper p1_board_lower p1_board_left p1_board_right], ¬ va_A ([cX4 a0 a1, aJ C a1 50 o_layers]) s.heap.size q.1 := hN0
  generalize hAe : va_A ([cX4 a0 a1, aJ C a1 50 o_layers]) s.heap.size = A at hD hN ⊢
  have hA : ∀ q : Nat, s.heap.size ≤ q → A q := fun q h => by rw [← hAe]; exact Or.inr h
  have hS : va_S A s.heap s.heap [] := va_S.rf
  have hx := hc.1
  have hb := hc.2.1
  have hown := hc.2.2.2.2.1
  have hts := hc.2.2.2.2.2.1
  refine en_F rfl (fun ls hl => ?_)
  have hl : lv_has ls 11 [(0, .ref a0), (1, .ref z0), (2, .int p2)] := hl
  refine lv_aload_n hx hb dX4_measure_0 rfl (lv_at hl 1 rfl) ?_
  refine va_get (D := D) (ci := 3) (v := .ref z1) (C := RX3) (T := TX3) (N := 6) hx hb hts inX3 hown hK (ro_S hO hN hS) 0 rfl rfl 0 (by decide) (hts _ q_92) (fun _ h9 => h9) rfl dX4_measure_1 ?_
  refine lv_astore_n (lv' := [(3, .ref z1), (0, .ref a0), (1, .ref z0), (2, .int p2)]) hx hb dX4_measure_4 rfl hl (by decide) rfl (fun ls hl => ?_)
  refine lv_aload_n hx hb dX4_measure_5 rfl (lv_at hl 2 rfl) ?_
  refine lv_iload_n hx hb dX4_measure_6 rfl (lv_at hl 3 rfl) ?_
  refine rcVl (As := [.int p2]) (rest := []) hc k_X4_21 (c_X3_stonesOf l D C z0 z1 p1_made p1_known r_p1_list p1_stones0 p1_stones1 p2  _ rfl) ⟨rfl, rfl, Nat.le_of_ble_eq_true rfl, Nat.le_of_ble_eq_true rfl⟩ ((hP.app (ro_S hO hN hS)).sub [2] rfl) hK (q0 := 0) rfl rfl rfl hl rfl rfl (Nat.le_of_ble_eq_true rfl) ⟨Nat.zero_le _, Nat.zero_le _⟩ dX4_measure_7 ?_
  refine lv_lstore (lv' := [(4, .long (m_X3_stonesOf p1_stones0 p1_stones1 p2)), (3, .ref z1), (0, .ref a0), (1, .ref z0), (2, .int p2)]) hx hb dX4_measure_10 hl (by decide) rfl (fun ls hl => ?_)
  refine lv_aload_n hx hb dX4_measure_12 rfl (lv_at hl 1 rfl) ?_
  refine lv_iload_n hx hb dX4_measure_13 rfl (lv_at hl 4 rfl) ?_
  refine rcVl (As := [.int p2]) (rest := []) hc k_X4_25 (c_X0_firstEdge l D C z1 p1_board_size p1_board_cells p1_board_all p1_board_upper p1_board_lower p1_board_left p1_board_right p2  _ rfl) ⟨rfl, rfl, Nat.le_of_ble_eq_true rfl, Nat.le_of_ble_eq_true rfl⟩ ((hP.app (ro_S hO hN hS)).sub [3] rfl) hK (q0 := 0) rfl rfl rfl hl rfl rfl (Nat.le_of_ble_eq_true rfl) ⟨Nat.zero_le _, Nat.zero_le _⟩ dX4_measure_14 ?_
  refine lv_lstore (lv' := [(6, .long (m_X0_firstEdge p1_board_upper p1_board_left p2)), (4, .long (m_X3_stonesOf p1_stones0 p1_stones1 p2)), (3, .ref z1), (0, .ref a0), (1, .ref z0), (2, .int p2)]) hx hb dX4_measure_17 hl (by decide) rfl (fun ls hl => ?_)
  refine lv_aload_n hx hb dX4_measure_19 rfl (lv_at hl 2 rfl) ?_
  refine lv_lload hx hb dX4_measure_20 (lv_at hl 0 rfl) ?_
  refine lv_lload hx hb dX4_measure_22 (lv_at hl 1 rfl) ?_
  obtain ⟨u1, hu1, hf⟩ := bind_some hf
  refine rcVl (As := [.long (m_X0_firstEdge p1_board_upper p1_board_left p2), .long (m_X3_stonesOf p1_stones0 p1_stones1 p2)]) (rest := []) hc k_X4_30 (c_X0_flood l D C z1 p1_board_size p1_board_cells p1_board_all p1_board_upper p1_board_lower p1_board_left p1_board_right (m_X0_firstEdge p1_board_upper p1_board_left p2) (m_X3_stonesOf p1_stones0 p1_stones1 p2)  _ hu1) ⟨rfl, rfl, Nat.le_of_ble_eq_true rfl, Nat.le_of_ble_eq_true rfl⟩ ((hP.app (ro_S hO hN hS)).sub [3] rfl) hK (q0 := 0) rfl rfl rfl hl rfl rfl (Nat.le_of_ble_eq_true rfl) ⟨Nat.zero_le _, Nat.zero_le _⟩ dX4_measure_24 ?_
  refine lv_lstore (lv' := [(8, .long u1), (6, .long (m_X0_firstEdge p1_board_upper p1_board_left p2)), (4, .long (m_X3_stonesOf p1_stones0 p1_stones1 p2)), (3, .ref z1), (0, .ref a0), (1, .ref z0), (2, .int p2)]) hx hb dX4_measure_27 hl (by decide) rfl (fun ls hl => ?_)
  refine lv_iconst (v := (0 : Int32)) hx hb dX4_measure_29 (by decide) ?_
  refine lv_istore (lv' := [(10, .int (0 : Int32)), (8, .long u1), (6, .long (m_X0_firstEdge p1_board_upper p1_board_left p2)), (4, .long (m_X3_stonesOf p1_stones0 p1_stones1 p2)), (3, .ref z1), (0, .ref a0), (1, .ref z0), (2, .int p2)]) hx hb dX4_measure_30 hl (by decide) rfl (fun ls hl => ?_)
  exact w_X4_measure_c32 hc hK hA hO hN  FU (m_X3_stonesOf p1_stones0 p1_stones1 p2) (m_X0_firstEdge p1_board_upper p1_board_left p2) u1 (0 : Int32) o_layers hf _ _ hP hD hS ls (lv_sub hl [5, 6, 7, 4, 3, 2, 1, 0] rfl)
abbrev R_X4_onShortest : Room := { frames := 5, cells := 0, slots := 0, locals := 141 }
def m_X4_onShortest_c55 (p1_stones0 : Int64) (p1_stones1 : Int64) (p1_board_size : Int32) (p1_board_cells : Int32) (p1_board_all : Int64) (p1_board_left : Int64) (p1_board_right : Int64)  : Nat → Int64 → Int64 → Int64 → Int64 → Int32 → (Nat → Int64) → Option (Int64 × (Nat → Int64))
  | 0, _, _, _, _, _, _ => none
  | n + 1, v5, v7, v9, v11, v13, o_layers => (if v13 < (1 : Int32) then some (v11, o_layers) else (if (49 : Int32) < v13 then some (v11, o_layers) else ((m_X4_nextLayer p1_board_size p1_board_cells p1_board_all p1_board_left p1_board_right v9 v7 v5 (m_X3_free p1_stones0 p1_stones1 p1_board_all)).bind fun u6 => (if okI v13 50 = true then (jlet (v11 ||| (((o_layers v13.toNatClampNeg) &&& u6) &&& (m_X3_free p1_stones0 p1_stones1 p1_board_all))) fun x8 => (m_X4_onShortest_c55 p1_stones0 p1_stones1 p1_board_size p1_board_cells p1_board_all p1_board_left p1_board_right  n v5 v7 u6 x8 (v13 + (-1 : Int32)) o_layers)) else none))))
set_option maxHeartbeats 4000000 in
set_option maxRecDepth 100000 in
theorem w_X4_onShortest_c55 {p : Program} {l : Launch} {e : Env} {s : State} {m : MethodId} {args : Array Value} {below : List Frame} {meth : Method} {c : Code} {D : va_G} {C : Nat → ClassId} {A : Nat → Prop} {a0 : Nat} {a1 : Nat} {z0 : Nat} {z1 : Nat} {p1_made : Int32} {p1_known : Int32} {r_p1_list : Nat} {p1_stones0 : Int64} {p1_stones1 : Int64} {p1_board_size : Int32} {p1_board_cells : Int32} {p1_board_all : Int64} {p1_board_upper : Int64} {p1_board_lower : Int64} {p1_board_left : Int64} {p1_board_right : Int64} {o : Int64 × (Nat → Int64)} (hc : Cx p s m args meth c yX4_onShortest cX4_onShortest 14 (some .long)) (hK : va_K D vwCl (TY C) s) (hA : ∀ q : Nat, s.heap.size ≤ q → A q) (hO : va_P D vwCl [cX3 z0 z1 p1_made p1_known r_p1_list p1_stones0 p1_stones1, cX0 z1 p1_board_size p1_board_cells p1_board_all p1_board_upper p1_board_lower p1_board_left p1_board_right] s.heap) (hN : ∀ q ∈ [cX3 z0 z1 p1_made p1_known r_p1_list p1_stones0 p1_stones1, cX0 z1 p1_board_size p1_board_cells p1_board_all p1_board_upper p1_board_lower p1_board_left p1_board_right], ¬ A q.1) : ∀ (n : Nat), ∀ (v5 : Int64) (v7 : Int64) (v9 : Int64) (v11 : Int64) (v13 : Int32) (o_layers : Nat → Int64), m_X4_onShortest_c55 p1_stones0 p1_stones1 p1_board_size p1_board_cells p1_board_all p1_board_left p1_board_right  n v5 v7 v9 v11 v13 o_layers = some o → ∀ (H : Heap) (locs : List Loc), va_P D vwCl ([cX4 a0 a1, aJ C a1 50 o_layers]) H → va_D A ([cX4 a0 a1, aJ C a1 50 o_layers]) → va_S A s.heap H locs → ∀ (ls : Array Slot), lv_has ls 14 [(0, .ref a0), (1, .ref z0), (4, .ref z1), (5, .long v5), (7, .long v7), (9, .long v9), (11, .long v11), (13, .int v13)] → W p l e R_X4_onShortest s m args below meth c H locs 0 0 (MQ below (QWl D o.1 ([cX4 a0 a1, aJ C a1 50 o.2]) A) args s 0 0 A) (F0 m 55 ls []) := by
  have hx := hc.1
  have hb := hc.2.1
  have hown := hc.2.2.2.2.1
  have hts := hc.2.2.2.2.2.1
  intro n
  induction n with
  | zero =>
    intro v5 v7 v9 v11 v13 o_layers hf
    exact no_some hf
  | succ n ih =>
    intro v5 v7 v9 v11 v13 o_layers hf H locs hP hD hS ls hl
    refine lv_iload hx hb dX4_onShortest_55 (lv_at hl 7 rfl) ?_
    refine lv_iconst (v := (1 : Int32)) hx hb dX4_onShortest_57 (by decide) ?_
    refine lv_icmp_lt (tgt := 111) hx hb dX4_onShortest_58 (by decide) (fun c4 => ?_) (fun c4 => ?_)
    · have hf := if_t hf c4
      refine lv_lload hx hb dX4_onShortest_111 (lv_at hl 6 rfl) ?_
      have hf := Option.some.inj hf
      subst hf
      exact rWl hc rfl hP hD hS dX4_onShortest_113
    · have hf := if_f hf c4
      refine lv_iload hx hb dX4_onShortest_61 (lv_at hl 7 rfl) ?_
      refine lv_bipush (v := (49 : Int32)) hx hb dX4_onShortest_63 (by decide) ?_
      refine lv_icmp_gt (tgt := 111) hx hb dX4_onShortest_65 (by decide) (fun c5 => ?_) (fun c5 => ?_)
      · have hf := if_t hf c5
        refine lv_lload hx hb dX4_onShortest_111 (lv_at hl 6 rfl) ?_
        have hf := Option.some.inj hf
        subst hf
        exact rWl hc rfl hP hD hS dX4_onShortest_113
      · have hf := if_f hf c5
        refine lv_aload hx hb dX4_onShortest_68 (lv_at hl 2 rfl) ?_
        refine lv_lload hx hb dX4_onShortest_70 (lv_at hl 5 rfl) ?_
        refine lv_lload hx hb dX4_onShortest_72 (lv_at hl 4 rfl) ?_
        refine lv_lload hx hb dX4_onShortest_74 (lv_at hl 3 rfl) ?_
        refine lv_aload_n hx hb dX4_onShortest_76 rfl (lv_at hl 1 rfl) ?_
        refine rcVl (As := []) (rest := [.long v5, .long v7, .long v9, .ref z1]) hc k_X4_37 (c_X3_free l D C z0 z1 p1_made p1_known r_p1_list p1_stones0 p1_stones1 p1_board_size p1_board_cells p1_board_all p1_board_upper p1_board_lower p1_board_left p1_board_right  _ rfl) ⟨rfl, rfl, Nat.le_of_ble_eq_true rfl, Nat.le_of_ble_eq_true rfl⟩ ((hP.app (ro_S hO hN hS)).sub [2, 3] rfl) hK (q0 := 0) rfl rfl rfl hl rfl rfl (Nat.le_of_ble_eq_true rfl) ⟨Nat.zero_le _, Nat.zero_le _⟩ dX4_onShortest_77 ?_
        obtain ⟨u6, hu6, hf⟩ := bind_some hf
        refine rcSl (As := [.ref z1, .long v9, .long v7, .long v5, .long (m_X3_free p1_stones0 p1_stones1 p1_board_all)]) (rest := []) hc k_X4_41 (c_X4_nextLayer l D C z1 p1_board_size p1_board_cells p1_board_all p1_board_upper p1_board_lower p1_board_left p1_board_right v9 v7 v5 (m_X3_free p1_stones0 p1_stones1 p1_board_all)  _ hu6) ⟨rfl, rfl, Nat.le_of_ble_eq_true rfl, Nat.le_of_ble_eq_true rfl⟩ ((hP.app (ro_S hO hN hS)).sub [3] rfl) hK hl rfl rfl (Nat.le_of_ble_eq_true rfl) ⟨Nat.zero_le _, Nat.zero_le _⟩ dX4_onShortest_80 ?_
        refine lv_lstore (lv' := [(9, .long u6), (0, .ref a0), (1, .ref z0), (4, .ref z1), (5, .long v5), (7, .long v7), (11, .long v11), (13, .int v13)]) hx hb dX4_onShortest_83 hl (by decide) rfl (fun ls hl => ?_)
        refine lv_lload hx hb dX4_onShortest_85 (lv_at hl 6 rfl) ?_
        refine lv_aload_n hx hb dX4_onShortest_87 rfl (lv_at hl 1 rfl) ?_
        refine va_get (D := D) (ci := 4) (v := .ref a1) (C := RX4) (T := TX4) (N := 1) hx hb hts inX4 hown hK hP 0 rfl rfl 0 (by decide) (hts _ q_26) (fun _ h9 => h9) rfl dX4_onShortest_88 ?_
        refine lv_iload hx hb dX4_onShortest_91 (lv_at hl 7 rfl) ?_
        obtain ⟨h7, hf⟩ := ok_t hf
        refine va_lald hx hb hK hP 1 1 rfl rfl (okI_in h7) dX4_onShortest_93 ?_
        refine lv_lload hx hb dX4_onShortest_94 (lv_at hl 0 rfl) ?_
        refine lv_land hx hb dX4_onShortest_96 ?_
        refine lv_aload_n hx hb dX4_onShortest_97 rfl (lv_at hl 2 rfl) ?_
        refine rcVl (As := []) (rest := [.long ((o_layers v13.toNatClampNeg) &&& u6), .long v11]) hc k_X4_37 (c_X3_free l D C z0 z1 p1_made p1_known r_p1_list p1_stones0 p1_stones1 p1_board_size p1_board_cells p1_board_all p1_board_upper p1_board_lower p1_board_left p1_board_right  _ rfl) ⟨rfl, rfl, Nat.le_of_ble_eq_true rfl, Nat.le_of_ble_eq_true rfl⟩ ((hP.app (ro_S hO hN hS)).sub [2, 3] rfl) hK (q0 := 0) rfl rfl rfl hl rfl rfl (Nat.le_of_ble_eq_true rfl) ⟨Nat.zero_le _, Nat.zero_le _⟩ dX4_onShortest_98 ?_
        refine lv_land hx hb dX4_onShortest_101 ?_
        refine lv_lor hx hb dX4_onShortest_102 ?_
        refine lv_topl (fun x8 ex8 => ?_)
        have hf := jlet_t hf ex8
        refine lv_lstore (lv' := [(11, .long x8), (9, .long u6), (0, .ref a0), (1, .ref z0), (4, .ref z1), (5, .long v5), (7, .long v7), (13, .int v13)]) hx hb dX4_onShortest_103 hl (by decide) rfl (fun ls hl => ?_)
        refine lv_iinc (v := (v13 + (-1 : Int32))) (lv' := [(13, .int (v13 + (-1 : Int32))), (11, .long x8), (9, .long u6), (0, .ref a0), (1, .ref z0), (4, .ref z1), (5, .long v5), (7, .long v7)]) hx hb dX4_onShortest_105 hl (k := 7) rfl rfl (by decide) rfl (fun ls hl => ?_)
        refine lv_goto (tgt := 55) hx hb dX4_onShortest_108 (by decide) ?_
        exact ih v5 v7 u6 x8 (v13 + (-1 : Int32)) o_layers hf _ _ hP hD hS ls (lv_sub hl [3, 4, 5, 6, 7, 2, 1, 0] rfl)
def m_X4_onShortest (o_layers : Nat → Int64) (p1_stones0 : Int64) (p1_stones1 : Int64) (p1_board_size : Int32) (p1_board_cells : Int32) (p1_board_all : Int64) (p1_board_upper : Int64) (p1_board_lower : Int64) (p1_board_left : Int64) (p1_board_right : Int64) (p2 : Int32) : Option (Int64 × (Nat → Int64)) := ((m_X4_measure o_layers p1_stones0 p1_stones1 p1_board_size p1_board_cells p1_board_all p1_board_upper p1_board_lower p1_board_left p1_board_right p2).bind fun u1 => (if u1.1 = (-15 : Int32) then some ((-15 : Int64), u1.2) else ((m_X0_flood p1_board_size p1_board_cells p1_board_all p1_board_left p1_board_right (m_X0_secondEdge p1_board_lower p1_board_right p2) (m_X3_stonesOf p1_stones0 p1_stones1 p2)).bind fun u3 => (m_X4_onShortest_c55 p1_stones0 p1_stones1 p1_board_size p1_board_cells p1_board_all p1_board_left p1_board_right FU (m_X3_stonesOf p1_stones0 p1_stones1 p2) (m_X0_secondEdge p1_board_lower p1_board_right p2) u3 (0 : Int64) u1.1 u1.2))))
set_option maxHeartbeats 4000000 in
set_option maxRecDepth 100000 in
theorem c_X4_onShortest (l : Launch) (D : va_G) (C : Nat → ClassId) (sz : Nat) (a0 : Nat) (a1 : Nat) (z0 : Nat) (z1 : Nat) (o_layers : Nat → Int64) (p1_made : Int32) (p1_known : Int32) (r_p1_list : Nat) (p1_stones0 : Int64) (p1_stones1 : Int64) (p1_board_size : Int32) (p1_board_cells : Int32) (p1_board_all : Int64) (p1_board_upper : Int64) (p1_board_lower : Int64) (p1_board_left : Int64) (p1_board_right : Int64) (p2 : Int32) (o : Int64 × (Nat → Int64)) (hf : m_X4_onShortest o_layers p1_stones0 p1_stones1 p1_board_size p1_board_cells p1_board_all p1_board_upper p1_board_lower p1_board_left p1_board_right p2 = some o) : Met l yX4_onShortest (wl yX4_onShortest cX4_onShortest 14 (some .long)) R_X4_onShortest (PW [.ref a0, .ref z0, .int p2] D C sz ([cX4 a0 a1, aJ C a1 50 o_layers]) [cX3 z0 z1 p1_made p1_known r_p1_list p1_stones0 p1_stones1, cX0 z1 p1_board_size p1_board_cells p1_board_all p1_board_upper p1_board_lower p1_board_left p1_board_right]) (QWl D o.1 ([cX4 a0 a1, aJ C a1 50 o.2]) (va_A ([cX4 a0 a1, aJ C a1 50 o_layers]) sz)) 0 0 (va_A ([cX4 a0 a1, aJ C a1 50 o_layers]) sz) := by
  refine Met_ofC (by decide) ?_
  intro p e s m args below meth c hc hv
  obtain ⟨rfl, hsz, hP, hK, hD0, hO, hN0⟩ := hv
  subst hsz
  have hD := hD0.self (sz := s.heap.size)
  have hN : ∀ q ∈ [cX3 z0 z1 p1_made p1_known r_p1_list p1_stones0 p1_stones1, cX0 z1 p1_board_size p1_board_cells p1_board_all p1_board_upper p1_board_lower p1_board_left p1_board_right], ¬ va_A ([cX4 a0 a1, aJ C a1 50 o_layers]) s.heap.size q.1 := hN0
  generalize hAe : va_A ([cX4 a0 a1, aJ C a1 50 o_layers]) s.heap.size = A at hD hN ⊢
  have hA : ∀ q : Nat, s.heap.size ≤ q → A q := fun q h => by rw [← hAe]; exact Or.inr h
  have hS : va_S A s.heap s.heap [] := va_S.rf
  have hx := hc.1
  have hb := hc.2.1
  have hown := hc.2.2.2.2.1
  have hts := hc.2.2.2.2.2.1
  refine en_F rfl (fun ls hl => ?_)
  have hl : lv_has ls 14 [(0, .ref a0), (1, .ref z0), (2, .int p2)] := hl
  refine lv_aload_n hx hb dX4_onShortest_0 rfl (lv_at hl 0 rfl) ?_
  refine lv_aload_n hx hb dX4_onShortest_1 rfl (lv_at hl 1 rfl) ?_
  refine lv_iload_n hx hb dX4_onShortest_2 rfl (lv_at hl 2 rfl) ?_
  obtain ⟨u1, hu1, hf⟩ := bind_some hf
  refine wcVi (A := A) (wc := [cX4 a0 a1, aJ C a1 50 o_layers]) (w1 := [cX4 a0 a1, aJ C a1 50 u1.2]) (rc := [cX3 z0 z1 p1_made p1_known r_p1_list p1_stones0 p1_stones1, cX0 z1 p1_board_size p1_board_cells p1_board_all p1_board_upper p1_board_lower p1_board_left p1_board_right]) (As := [.ref z0, .int p2]) (rest := []) hc k_X4_49 (c_X4_measure l D C _ a0 a1 z0 z1 o_layers p1_made p1_known r_p1_list p1_stones0 p1_stones1 p1_board_size p1_board_cells p1_board_all p1_board_upper p1_board_lower p1_board_left p1_board_right p2  _ hu1) ⟨rfl, rfl, Nat.le_of_ble_eq_true rfl, Nat.le_of_ble_eq_true rfl⟩ hP hD hS hA hK [0, 1] [] rfl rfl rfl rfl (by decide) ((hP.app (ro_S hO hN hS)).sub [2, 3] rfl) (Ap_cons (fun h9 => hN _ (List.mem_of_getElem? (i := 0) rfl) (va_free (wc := [cX4 a0 a1, aJ C a1 50 o_layers]) hD hS hA [0, 1] rfl _ h9)) (Ap_cons (fun h9 => hN _ (List.mem_of_getElem? (i := 1) rfl) (va_free (wc := [cX4 a0 a1, aJ C a1 50 o_layers]) hD hS hA [0, 1] rfl _ h9)) Ap_nil)) (q0 := 0) rfl rfl rfl hl rfl rfl (Nat.le_of_ble_eq_true rfl) ⟨Nat.zero_le _, Nat.zero_le _⟩ dX4_onShortest_3 (fun H locs hP hD hS => ?_)
  have hP : va_P D vwCl ([cX4 a0 a1, aJ C a1 50 u1.2]) H := hP.sub [0, 1] rfl
  have hD : va_D A ([cX4 a0 a1, aJ C a1 50 u1.2]) := hD.sub [0, 1] rfl rfl
  refine lv_istore_n (lv' := [(3, .int u1.1), (0, .ref a0), (1, .ref z0), (2, .int p2)]) hx hb dX4_onShortest_6 rfl hl (by decide) rfl (fun ls hl => ?_)
  refine lv_iload_n hx hb dX4_onShortest_7 rfl (lv_at hl 0 rfl) ?_
  refine lv_bipush (v := (-15 : Int32)) hx hb dX4_onShortest_8 (by decide) ?_
  refine lv_icmp_ne (tgt := 17) hx hb dX4_onShortest_10 (by decide) (fun c2 => ?_) (fun c2 => ?_)
  · have hf := if_f hf c2
    refine lv_aload_n hx hb dX4_onShortest_17 rfl (lv_at hl 2 rfl) ?_
    refine va_get (D := D) (ci := 3) (v := .ref z1) (C := RX3) (T := TX3) (N := 6) hx hb hts inX3 hown hK (ro_S hO hN hS) 0 rfl rfl 0 (by decide) (hts _ q_92) (fun _ h9 => h9) rfl dX4_onShortest_18 ?_
    refine lv_astore (lv' := [(4, .ref z1), (3, .int u1.1), (0, .ref a0), (1, .ref z0), (2, .int p2)]) hx hb dX4_onShortest_21 hl (by decide) rfl (fun ls hl => ?_)
    refine lv_aload_n hx hb dX4_onShortest_23 rfl (lv_at hl 3 rfl) ?_
    refine lv_iload_n hx hb dX4_onShortest_24 rfl (lv_at hl 4 rfl) ?_
    refine rcVl (As := [.int p2]) (rest := []) hc k_X4_21 (c_X3_stonesOf l D C z0 z1 p1_made p1_known r_p1_list p1_stones0 p1_stones1 p2  _ rfl) ⟨rfl, rfl, Nat.le_of_ble_eq_true rfl, Nat.le_of_ble_eq_true rfl⟩ ((hP.app (ro_S hO hN hS)).sub [2] rfl) hK (q0 := 0) rfl rfl rfl hl rfl rfl (Nat.le_of_ble_eq_true rfl) ⟨Nat.zero_le _, Nat.zero_le _⟩ dX4_onShortest_25 ?_
    refine lv_lstore (lv' := [(5, .long (m_X3_stonesOf p1_stones0 p1_stones1 p2)), (4, .ref z1), (3, .int u1.1), (0, .ref a0), (1, .ref z0), (2, .int p2)]) hx hb dX4_onShortest_28 hl (by decide) rfl (fun ls hl => ?_)
    refine lv_aload hx hb dX4_onShortest_30 (lv_at hl 1 rfl) ?_
    refine lv_iload_n hx hb dX4_onShortest_32 rfl (lv_at hl 5 rfl) ?_
    refine rcVl (As := [.int p2]) (rest := []) hc k_X4_34 (c_X0_secondEdge l D C z1 p1_board_size p1_board_cells p1_board_all p1_board_upper p1_board_lower p1_board_left p1_board_right p2  _ rfl) ⟨rfl, rfl, Nat.le_of_ble_eq_true rfl, Nat.le_of_ble_eq_true rfl⟩ ((hP.app (ro_S hO hN hS)).sub [3] rfl) hK (q0 := 0) rfl rfl rfl hl rfl rfl (Nat.le_of_ble_eq_true rfl) ⟨Nat.zero_le _, Nat.zero_le _⟩ dX4_onShortest_33 ?_
    refine lv_lstore (lv' := [(7, .long (m_X0_secondEdge p1_board_lower p1_board_right p2)), (5, .long (m_X3_stonesOf p1_stones0 p1_stones1 p2)), (4, .ref z1), (3, .int u1.1), (0, .ref a0), (1, .ref z0), (2, .int p2)]) hx hb dX4_onShortest_36 hl (by decide) rfl (fun ls hl => ?_)
    refine lv_aload hx hb dX4_onShortest_38 (lv_at hl 2 rfl) ?_
    refine lv_lload hx hb dX4_onShortest_40 (lv_at hl 0 rfl) ?_
    refine lv_lload hx hb dX4_onShortest_42 (lv_at hl 1 rfl) ?_
    obtain ⟨u3, hu3, hf⟩ := bind_some hf
    refine rcVl (As := [.long (m_X0_secondEdge p1_board_lower p1_board_right p2), .long (m_X3_stonesOf p1_stones0 p1_stones1 p2)]) (rest := []) hc k_X4_30 (c_X0_flood l D C z1 p1_board_size p1_board_cells p1_board_all p1_board_upper p1_board_lower p1_board_left p1_board_right (m_X0_secondEdge p1_board_lower p1_board_right p2) (m_X3_stonesOf p1_stones0 p1_stones1 p2)  _ hu3) ⟨rfl, rfl, Nat.le_of_ble_eq_true rfl, Nat.le_of_ble_eq_true rfl⟩ ((hP.app (ro_S hO hN hS)).sub [3] rfl) hK (q0 := 0) rfl rfl rfl hl rfl rfl (Nat.le_of_ble_eq_true rfl) ⟨Nat.zero_le _, Nat.zero_le _⟩ dX4_onShortest_44 ?_
    refine lv_lstore (lv' := [(9, .long u3), (7, .long (m_X0_secondEdge p1_board_lower p1_board_right p2)), (5, .long (m_X3_stonesOf p1_stones0 p1_stones1 p2)), (4, .ref z1), (3, .int u1.1), (0, .ref a0), (1, .ref z0), (2, .int p2)]) hx hb dX4_onShortest_47 hl (by decide) rfl (fun ls hl => ?_)
    refine lv_lconst (v := (0 : Int64)) hx hb dX4_onShortest_49 (by decide) ?_
    refine lv_lstore (lv' := [(11, .long (0 : Int64)), (9, .long u3), (7, .long (m_X0_secondEdge p1_board_lower p1_board_right p2)), (5, .long (m_X3_stonesOf p1_stones0 p1_stones1 p2)), (4, .ref z1), (3, .int u1.1), (0, .ref a0), (1, .ref z0), (2, .int p2)]) hx hb dX4_onShortest_50 hl (by decide) rfl (fun ls hl => ?_)
    refine lv_iload_n hx hb dX4_onShortest_52 rfl (lv_at hl 5 rfl) ?_
    refine lv_istore (lv' := [(13, .int u1.1), (11, .long (0 : Int64)), (9, .long u3), (7, .long (m_X0_secondEdge p1_board_lower p1_board_right p2)), (5, .long (m_X3_stonesOf p1_stones0 p1_stones1 p2)), (4, .ref z1), (3, .int u1.1), (0, .ref a0), (1, .ref z0), (2, .int p2)]) hx hb dX4_onShortest_53 hl (by decide) rfl (fun ls hl => ?_)
    exact w_X4_onShortest_c55 hc hK hA hO hN  FU (m_X3_stonesOf p1_stones0 p1_stones1 p2) (m_X0_secondEdge p1_board_lower p1_board_right p2) u3 (0 : Int64) u1.1 u1.2 hf _ _ hP hD hS ls (lv_sub hl [7, 8, 5, 4, 3, 2, 1, 0] rfl)
  · have hf := if_t hf c2
    refine lv_ldc2 (v := (-15 : Int64)) hx hb hown (hts _ q_361) dX4_onShortest_13 ?_
    have hf := Option.some.inj hf
    subst hf
    exact rWl hc rfl hP hD hS dX4_onShortest_16

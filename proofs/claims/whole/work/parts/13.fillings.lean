theorem kn_X2_62 : CalN RX2 62 yX5_nextSubset "HexWorkbench" cX5_nextSubset 4 (some .long) 2 := ⟨q_420, q_1, by decide +kernel⟩
abbrev R_X5_nextSubset : Room := { frames := 0, cells := 0, slots := 0, locals := 0 }
def m_X5_nextSubset (p0 : Int64) (p1 : Int64) : Int64 := ((p0 - p1) &&& p1)
set_option maxHeartbeats 4000000 in
set_option maxRecDepth 100000 in
theorem c_X5_nextSubset (l : Launch) (D : va_G) (C : Nat → ClassId) (p0 : Int64) (p1 : Int64) (o : Int64) (hf : m_X5_nextSubset p0 p1 = o) : Met l yX5_nextSubset (wl yX5_nextSubset cX5_nextSubset 4 (some .long)) R_X5_nextSubset (PR [.long p0, .long p1] D C ([] : va_W)) (vp_Sl (fun r => r = o)) 0 0 (fun _ => False) := by
  refine Met_ofC (by decide) ?_
  intro p e s m args below meth c hc hv
  obtain ⟨rfl, hP, hK⟩ := hv
  have hx := hc.1
  have hb := hc.2.1
  have hown := hc.2.2.2.2.1
  have hts := hc.2.2.2.2.2.1
  refine en_F rfl (fun ls hl => ?_)
  have hl : lv_has ls 4 [(0, .long p0), (2, .long p1)] := hl
  refine lv_lload_n hx hb dX5_nextSubset_0 rfl (lv_at hl 0 rfl) ?_
  refine lv_lload_n hx hb dX5_nextSubset_1 rfl (lv_at hl 1 rfl) ?_
  refine lv_lsub hx hb dX5_nextSubset_2 ?_
  refine lv_lload_n hx hb dX5_nextSubset_3 rfl (lv_at hl 1 rfl) ?_
  refine lv_land hx hb dX5_nextSubset_4 ?_
  exact rRl hc hf dX5_nextSubset_5
abbrev R_X2_size : Room := { frames := 0, cells := 0, slots := 0, locals := 0 }
def m_X2_size (o_count : Int32) : Int32 := ((1 : Int32) <<< (o_count &&& 31))
set_option maxHeartbeats 4000000 in
set_option maxRecDepth 100000 in
theorem c_X2_size (l : Launch) (D : va_G) (C : Nat → ClassId) (z0 : Nat) (r_o_wins : Nat) (o_count : Int32) (o : Int32) (hf : m_X2_size o_count = o) : Met l yX2_size (wl yX2_size cX2_size 1 (some .int)) R_X2_size (PR [.ref z0] D C [cX2 z0 r_o_wins o_count]) (vp_Si (fun r => r = o)) 0 0 (fun _ => False) := by
  refine Met_ofC (by decide) ?_
  intro p e s m args below meth c hc hv
  obtain ⟨rfl, hP, hK⟩ := hv
  have hx := hc.1
  have hb := hc.2.1
  have hown := hc.2.2.2.2.1
  have hts := hc.2.2.2.2.2.1
  refine en_F rfl (fun ls hl => ?_)
  have hl : lv_has ls 1 [(0, .ref z0)] := hl
  refine lv_iconst (v := (1 : Int32)) hx hb dX2_size_0 (by decide) ?_
  refine lv_aload_n hx hb dX2_size_1 rfl (lv_at hl 0 rfl) ?_
  refine va_get (D := D) (ci := 2) (v := .int o_count) (C := RX2) (T := TX2) (N := 2) hx hb hts inX2 hown hK hP 0 rfl rfl 1 (by decide) (hts _ q_38) (fun _ h9 => h9) rfl dX2_size_2 ?_
  refine lv_ishl hx hb dX2_size_5 ?_
  exact rRi hc hf dX2_size_6
abbrev R_X2_compute : Room := { frames := 3, cells := 0, slots := 0, locals := 83 }
def m_X2_compute_c108  (k56 : Int64 → Int64 → Int32 → Int32 → (Nat → Int64) → Option (Int32 × (Nat → Int64))) (v3 : Int64) (v5 : Int64) (v7 : Int32) (o_count : Int32) (o_wins : Nat → Int64) : Option (Int32 × (Nat → Int64)) := (k56 v3 (m_X5_nextSubset v5 v3) (v7 + (1 : Int32)) o_count o_wins)
set_option maxHeartbeats 4000000 in
set_option maxRecDepth 100000 in
theorem w_X2_compute_c108 {p : Program} {l : Launch} {e : Env} {s : State} {m : MethodId} {args : Array Value} {below : List Frame} {meth : Method} {c : Code} {D : va_G} {C : Nat → ClassId} {A : Nat → Prop} {tp : Nat} {a0 : Nat} {a1 : Nat} {z0 : Nat} {z1 : Nat} {p1_made : Int32} {p1_known : Int32} {r_p1_list : Nat} {p1_stones0 : Int64} {p1_stones1 : Int64} {p1_board_size : Int32} {p1_board_cells : Int32} {p1_board_all : Int64} {p1_board_upper : Int64} {p1_board_lower : Int64} {p1_board_left : Int64} {p1_board_right : Int64} {o : Int32 × (Nat → Int64)} (hc : Cx p s m args meth c yX2_compute cX2_compute 8 none) (hK : va_K D vwCl (TY C) s) (hA : ∀ q : Nat, s.heap.size ≤ q → A q) (hO : va_P D vwCl [cX3 z0 z1 p1_made p1_known r_p1_list p1_stones0 p1_stones1, cX0 z1 p1_board_size p1_board_cells p1_board_all p1_board_upper p1_board_lower p1_board_left p1_board_right] s.heap) (hN : ∀ q ∈ [cX3 z0 z1 p1_made p1_known r_p1_list p1_stones0 p1_stones1, cX0 z1 p1_board_size p1_board_cells p1_board_all p1_board_upper p1_board_lower p1_board_left p1_board_right], ¬ A q.1) (hT : Xt tp A s s.heap) (k56 : Int64 → Int64 → Int32 → Int32 → (Nat → Int64) → Option (Int32 × (Nat → Int64))) (hk56 : ∀ (v3 : Int64) (v5 : Int64) (v7 : Int32) (o_count : Int32) (o_wins : Nat → Int64), k56 v3 v5 v7 o_count o_wins = some o → ∀ (H : Heap) (locs : List Loc), va_P D vwCl ([cX2 a0 a1 o_count, aJ C a1 64 o_wins]) H → va_D A ([cX2 a0 a1 o_count, aJ C a1 64 o_wins]) → va_S A s.heap H locs → ∀ (ls : Array Slot), lv_has ls 8 [(0, .ref a0), (1, .ref z0), (2, .ref z1), (3, .long v3), (5, .long v5), (7, .int v7)] → W p l e R_X2_compute s m args below meth c H locs 0 0 (MQ below (QWv D ([cX2 a0 a1 o.1, aJ C a1 64 o.2]) A) args s 0 0 A) (F0 m 56 ls [])) : ∀ (v3 : Int64) (v5 : Int64) (v7 : Int32) (o_count : Int32) (o_wins : Nat → Int64), m_X2_compute_c108  k56 v3 v5 v7 o_count o_wins = some o → ∀ (H : Heap) (locs : List Loc), va_P D vwCl ([cX2 a0 a1 o_count, aJ C a1 64 o_wins]) H → va_D A ([cX2 a0 a1 o_count, aJ C a1 64 o_wins]) → va_S A s.heap H locs → ∀ (ls : Array Slot), lv_has ls 8 [(0, .ref a0), (1, .ref z0), (2, .ref z1), (3, .long v3), (5, .long v5), (7, .int v7)] → W p l e R_X2_compute s m args below meth c H locs 0 0 (MQ below (QWv D ([cX2 a0 a1 o.1, aJ C a1 64 o.2]) A) args s 0 0 A) (F0 m 108 ls []) := by
  have hx := hc.1
  have hb := hc.2.1
  have hown := hc.2.2.2.2.1
  have hts := hc.2.2.2.2.2.1
  intro v3 v5 v7 o_count o_wins hf H locs hP hD hS ls hl
  refine lv_lload hx hb dX2_compute_108 (lv_at hl 4 rfl) ?_
  refine lv_lload_n hx hb dX2_compute_110 rfl (lv_at hl 3 rfl) ?_
  refine rcSNl (As := [.long v5, .long v3]) (rest := []) (host := "HexWorkbench") hc kn_X2_62 q_419 hT.2.2 (c_X5_nextSubset l D C v5 v3  _ rfl) ⟨rfl, rfl, Nat.le_of_ble_eq_true rfl, Nat.le_of_ble_eq_true rfl⟩ (hP.sub [] rfl) hK hl rfl rfl (Nat.le_of_ble_eq_true rfl) ⟨Nat.zero_le _, Nat.zero_le _⟩ dX2_compute_111 ?_
  refine lv_lstore (lv' := [(5, .long (m_X5_nextSubset v5 v3)), (0, .ref a0), (1, .ref z0), (2, .ref z1), (3, .long v3), (7, .int v7)]) hx hb dX2_compute_114 hl (by decide) rfl (fun ls hl => ?_)
  refine lv_iinc (v := (v7 + (1 : Int32))) (lv' := [(7, .int (v7 + (1 : Int32))), (5, .long (m_X5_nextSubset v5 v3)), (0, .ref a0), (1, .ref z0), (2, .ref z1), (3, .long v3)]) hx hb dX2_compute_116 hl (k := 5) rfl rfl (by decide) rfl (fun ls hl => ?_)
  refine lv_goto (tgt := 56) hx hb dX2_compute_119 (by decide) ?_
  exact hk56 v3 (m_X5_nextSubset v5 v3) (v7 + (1 : Int32)) o_count o_wins hf _ _ hP hD hS ls (lv_sub hl [2, 3, 4, 5, 1, 0] rfl)
def m_X2_compute_c56 (p1_stones0 : Int64) (p1_stones1 : Int64) (p1_board_size : Int32) (p1_board_cells : Int32) (p1_board_all : Int64) (p1_board_upper : Int64) (p1_board_lower : Int64) (p1_board_left : Int64) (p1_board_right : Int64)  : Nat → Int64 → Int64 → Int32 → Int32 → (Nat → Int64) → Option (Int32 × (Nat → Int64))
  | 0, _, _, _, _, _ => none
  | n + 1, v3, v5, v7, o_count, o_wins => (if (m_X2_size o_count) ≤ v7 then some (o_count, o_wins) else ((m_X0_linked p1_board_size p1_board_cells p1_board_all p1_board_left p1_board_right ((m_X3_stonesOf p1_stones0 p1_stones1 (0 : Int32)) ||| v5) p1_board_upper p1_board_lower).bind fun u3 => (if u3 = 0 then (m_X2_compute_c108 (m_X2_compute_c56 p1_stones0 p1_stones1 p1_board_size p1_board_cells p1_board_all p1_board_upper p1_board_lower p1_board_left p1_board_right  n) v3 v5 v7 o_count o_wins) else (if okI (jiushr v7 (6 : Int32)) 64 = true then (if okI (jiushr v7 (6 : Int32)) 64 = true then (m_X2_compute_c108 (m_X2_compute_c56 p1_stones0 p1_stones1 p1_board_size p1_board_cells p1_board_all p1_board_upper p1_board_lower p1_board_left p1_board_right  n) v3 v5 v7 o_count (vp_updL o_wins (jiushr v7 (6 : Int32)).toNatClampNeg ((o_wins (jiushr v7 (6 : Int32)).toNatClampNeg) ||| (jshl (1 : Int64) (v7 &&& (63 : Int32)))))) else none) else none))))
set_option maxHeartbeats 4000000 in
set_option maxRecDepth 100000 in
theorem w_X2_compute_c56 {p : Program} {l : Launch} {e : Env} {s : State} {m : MethodId} {args : Array Value} {below : List Frame} {meth : Method} {c : Code} {D : va_G} {C : Nat → ClassId} {A : Nat → Prop} {tp : Nat} {a0 : Nat} {a1 : Nat} {z0 : Nat} {z1 : Nat} {p1_made : Int32} {p1_known : Int32} {r_p1_list : Nat} {p1_stones0 : Int64} {p1_stones1 : Int64} {p1_board_size : Int32} {p1_board_cells : Int32} {p1_board_all : Int64} {p1_board_upper : Int64} {p1_board_lower : Int64} {p1_board_left : Int64} {p1_board_right : Int64} {o : Int32 × (Nat → Int64)} (hc : Cx p s m args meth c yX2_compute cX2_compute 8 none) (hK : va_K D vwCl (TY C) s) (hA : ∀ q : Nat, s.heap.size ≤ q → A q) (hO : va_P D vwCl [cX3 z0 z1 p1_made p1_known r_p1_list p1_stones0 p1_stones1, cX0 z1 p1_board_size p1_board_cells p1_board_all p1_board_upper p1_board_lower p1_board_left p1_board_right] s.heap) (hN : ∀ q ∈ [cX3 z0 z1 p1_made p1_known r_p1_list p1_stones0 p1_stones1, cX0 z1 p1_board_size p1_board_cells p1_board_all p1_board_upper p1_board_lower p1_board_left p1_board_right], ¬ A q.1) (hT : Xt tp A s s.heap) : ∀ (n : Nat), ∀ (v3 : Int64) (v5 : Int64) (v7 : Int32) (o_count : Int32) (o_wins : Nat → Int64), m_X2_compute_c56 p1_stones0 p1_stones1 p1_board_size p1_board_cells p1_board_all p1_board_upper p1_board_lower p1_board_left p1_board_right  n v3 v5 v7 o_count o_wins = some o → ∀ (H : Heap) (locs : List Loc), va_P D vwCl ([cX2 a0 a1 o_count, aJ C a1 64 o_wins]) H → va_D A ([cX2 a0 a1 o_count, aJ C a1 64 o_wins]) → va_S A s.heap H locs → ∀ (ls : Array Slot), lv_has ls 8 [(0, .ref a0), (1, .ref z0), (2, .ref z1), (3, .long v3), (5, .long v5), (7, .int v7)] → W p l e R_X2_compute s m args below meth c H locs 0 0 (MQ below (QWv D ([cX2 a0 a1 o.1, aJ C a1 64 o.2]) A) args s 0 0 A) (F0 m 56 ls []) := by
  have hx := hc.1
  have hb := hc.2.1
  have hown := hc.2.2.2.2.1
  have hts := hc.2.2.2.2.2.1
  intro n
  induction n with
  | zero =>
    intro v3 v5 v7 o_count o_wins hf
    exact no_some hf
  | succ n ih =>
    intro v3 v5 v7 o_count o_wins hf H locs hP hD hS ls hl
    refine lv_iload hx hb dX2_compute_56 (lv_at hl 5 rfl) ?_
    refine lv_aload_n hx hb dX2_compute_58 rfl (lv_at hl 0 rfl) ?_
    refine rcVi (As := []) (rest := [.int v7]) hc k_X2_41 (c_X2_size l D C a0 a1 o_count  _ rfl) ⟨rfl, rfl, Nat.le_of_ble_eq_true rfl, Nat.le_of_ble_eq_true rfl⟩ ((hP.app (ro_S hO hN hS)).sub [0] rfl) hK (q0 := 0) rfl rfl rfl hl rfl rfl (Nat.le_of_ble_eq_true rfl) ⟨Nat.zero_le _, Nat.zero_le _⟩ dX2_compute_59 ?_
    refine lv_icmp_ge (tgt := 122) hx hb dX2_compute_62 (by decide) (fun c2 => ?_) (fun c2 => ?_)
    · have hf := if_t hf c2
      have hf := Option.some.inj hf
      subst hf
      exact rWv hc hP hD hS dX2_compute_122
    · have hf := if_f hf c2
      refine lv_aload_n hx hb dX2_compute_65 rfl (lv_at hl 2 rfl) ?_
      refine lv_aload_n hx hb dX2_compute_66 rfl (lv_at hl 1 rfl) ?_
      refine lv_iconst (v := (0 : Int32)) hx hb dX2_compute_67 (by decide) ?_
      refine rcVl (As := [.int (0 : Int32)]) (rest := [.ref z1]) hc k_X2_45 (c_X3_stonesOf l D C z0 z1 p1_made p1_known r_p1_list p1_stones0 p1_stones1 (0 : Int32)  _ rfl) ⟨rfl, rfl, Nat.le_of_ble_eq_true rfl, Nat.le_of_ble_eq_true rfl⟩ ((hP.app (ro_S hO hN hS)).sub [2] rfl) hK (q0 := 0) rfl rfl rfl hl rfl rfl (Nat.le_of_ble_eq_true rfl) ⟨Nat.zero_le _, Nat.zero_le _⟩ dX2_compute_68 ?_
      refine lv_lload hx hb dX2_compute_71 (lv_at hl 4 rfl) ?_
      refine lv_lor hx hb dX2_compute_73 ?_
      refine lv_aload_n hx hb dX2_compute_74 rfl (lv_at hl 2 rfl) ?_
      refine va_get (D := D) (ci := 0) (v := .long p1_board_upper) (C := RX0) (T := TX0) (N := 7) hx hb hts inX0 hown hK (ro_S hO hN hS) 1 rfl rfl 3 (by decide) (hts _ q_58) (fun _ h9 => h9) rfl dX2_compute_75 ?_
      refine lv_aload_n hx hb dX2_compute_78 rfl (lv_at hl 2 rfl) ?_
      refine va_get (D := D) (ci := 0) (v := .long p1_board_lower) (C := RX0) (T := TX0) (N := 7) hx hb hts inX0 hown hK (ro_S hO hN hS) 1 rfl rfl 4 (by decide) (hts _ q_62) (fun _ h9 => h9) rfl dX2_compute_79 ?_
      obtain ⟨u3, hu3, hf⟩ := bind_some hf
      refine rcVi (As := [.long ((m_X3_stonesOf p1_stones0 p1_stones1 (0 : Int32)) ||| v5), .long p1_board_upper, .long p1_board_lower]) (rest := []) hc k_X2_58 (c_X0_linked l D C z1 p1_board_size p1_board_cells p1_board_all p1_board_upper p1_board_lower p1_board_left p1_board_right ((m_X3_stonesOf p1_stones0 p1_stones1 (0 : Int32)) ||| v5) p1_board_upper p1_board_lower  _ hu3) ⟨rfl, rfl, Nat.le_of_ble_eq_true rfl, Nat.le_of_ble_eq_true rfl⟩ ((hP.app (ro_S hO hN hS)).sub [3] rfl) hK (q0 := 0) rfl rfl rfl hl rfl rfl (Nat.le_of_ble_eq_true rfl) ⟨Nat.zero_le _, Nat.zero_le _⟩ dX2_compute_82 ?_
      refine lv_if_eq (tgt := 108) hx hb dX2_compute_85 (by decide) (fun c4 => ?_) (fun c4 => ?_)
      · have hf := if_t hf c4
        exact w_X2_compute_c108 hc hK hA hO hN hT (m_X2_compute_c56 p1_stones0 p1_stones1 p1_board_size p1_board_cells p1_board_all p1_board_upper p1_board_lower p1_board_left p1_board_right  n) ih v3 v5 v7 o_count o_wins hf _ _ hP hD hS ls (lv_sub hl [0, 1, 2, 3, 4, 5] rfl)
      · have hf := if_f hf c4
        refine lv_aload_n hx hb dX2_compute_88 rfl (lv_at hl 0 rfl) ?_
        refine va_get (D := D) (ci := 2) (v := .ref a1) (C := RX2) (T := TX2) (N := 2) hx hb hts inX2 hown hK hP 0 rfl rfl 0 (by decide) (hts _ q_37) (fun _ h9 => h9) rfl dX2_compute_89 ?_
        refine lv_iload hx hb dX2_compute_92 (lv_at hl 5 rfl) ?_
        refine lv_bipush (v := (6 : Int32)) hx hb dX2_compute_94 (by decide) ?_
        refine lv_iushr (v := (jiushr v7 (6 : Int32))) hx hb dX2_compute_96 rfl ?_
        refine lv_dup2_11 hx hb dX2_compute_97 rfl rfl ?_
        obtain ⟨h5, hf⟩ := ok_t hf
        refine va_lald hx hb hK hP 1 1 rfl rfl (okI_in h5) dX2_compute_98 ?_
        refine lv_lconst (v := (1 : Int64)) hx hb dX2_compute_99 (by decide) ?_
        refine lv_iload hx hb dX2_compute_100 (lv_at hl 5 rfl) ?_
        refine lv_bipush (v := (63 : Int32)) hx hb dX2_compute_102 (by decide) ?_
        refine lv_iand hx hb dX2_compute_104 ?_
        refine lv_lshl (v := (jshl (1 : Int64) (v7 &&& (63 : Int32)))) hx hb dX2_compute_105 rfl ?_
        refine lv_lor hx hb dX2_compute_106 ?_
        obtain ⟨h6, hf⟩ := ok_t hf
        refine va_last hx hb hK hP hD hS 1 1 rfl rfl (okI_in h6) dX2_compute_107 (fun H locs hP hD hS => ?_)
        have hP : va_P D vwCl ([cX2 a0 a1 o_count, aJ C a1 64 (vp_updL o_wins (jiushr v7 (6 : Int32)).toNatClampNeg ((o_wins (jiushr v7 (6 : Int32)).toNatClampNeg) ||| (jshl (1 : Int64) (v7 &&& (63 : Int32)))))]) H := hP
        have hD : va_D A ([cX2 a0 a1 o_count, aJ C a1 64 (vp_updL o_wins (jiushr v7 (6 : Int32)).toNatClampNeg ((o_wins (jiushr v7 (6 : Int32)).toNatClampNeg) ||| (jshl (1 : Int64) (v7 &&& (63 : Int32)))))]) := hD
        exact w_X2_compute_c108 hc hK hA hO hN hT (m_X2_compute_c56 p1_stones0 p1_stones1 p1_board_size p1_board_cells p1_board_all p1_board_upper p1_board_lower p1_board_left p1_board_right  n) ih v3 v5 v7 o_count (vp_updL o_wins (jiushr v7 (6 : Int32)).toNatClampNeg ((o_wins (jiushr v7 (6 : Int32)).toNatClampNeg) ||| (jshl (1 : Int64) (v7 &&& (63 : Int32))))) hf _ _ hP hD hS ls (lv_sub hl [0, 1, 2, 3, 4, 5] rfl)
def m_X2_compute_c26 (p1_stones0 : Int64) (p1_stones1 : Int64) (p1_board_size : Int32) (p1_board_cells : Int32) (p1_board_all : Int64) (p1_board_upper : Int64) (p1_board_lower : Int64) (p1_board_left : Int64) (p1_board_right : Int64)  : Nat → Int64 → Int32 → Int32 → (Nat → Int64) → Option (Int32 × (Nat → Int64))
  | 0, _, _, _, _ => none
  | n + 1, v3, v5, o_count, o_wins => (if (64 : Int32) ≤ v5 then (m_X2_compute_c56 p1_stones0 p1_stones1 p1_board_size p1_board_cells p1_board_all p1_board_upper p1_board_lower p1_board_left p1_board_right FU v3 (0 : Int64) (0 : Int32) o_count o_wins) else (if okI v5 64 = true then (m_X2_compute_c26 p1_stones0 p1_stones1 p1_board_size p1_board_cells p1_board_all p1_board_upper p1_board_lower p1_board_left p1_board_right  n v3 (v5 + (1 : Int32)) o_count (vp_updL o_wins v5.toNatClampNeg (0 : Int64))) else none))
set_option maxHeartbeats 4000000 in
set_option maxRecDepth 100000 in
theorem w_X2_compute_c26 {p : Program} {l : Launch} {e : Env} {s : State} {m : MethodId} {args : Array Value} {below : List Frame} {meth : Method} {c : Code} {D : va_G} {C : Nat → ClassId} {A : Nat → Prop} {tp : Nat} {a0 : Nat} {a1 : Nat} {z0 : Nat} {z1 : Nat} {p1_made : Int32} {p1_known : Int32} {r_p1_list : Nat} {p1_stones0 : Int64} {p1_stones1 : Int64} {p1_board_size : Int32} {p1_board_cells : Int32} {p1_board_all : Int64} {p1_board_upper : Int64} {p1_board_lower : Int64} {p1_board_left : Int64} {p1_board_right : Int64} {o : Int32 × (Nat → Int64)} (hc : Cx p s m args meth c yX2_compute cX2_compute 8 none) (hK : va_K D vwCl (TY C) s) (hA : ∀ q : Nat, s.heap.size ≤ q → A q) (hO : va_P D vwCl [cX3 z0 z1 p1_made p1_known r_p1_list p1_stones0 p1_stones1, cX0 z1 p1_board_size p1_board_cells p1_board_all p1_board_upper p1_board_lower p1_board_left p1_board_right] s.heap) (hN : ∀ q ∈ [cX3 z0 z1 p1_made p1_known r_p1_list p1_stones0 p1_stones1, cX0 z1 p1_board_size p1_board_cells p1_board_all p1_board_upper p1_board_lower p1_board_left p1_board_right], ¬ A q.1) (hT : Xt tp A s s.heap) : ∀ (n : Nat), ∀ (v3 : Int64) (v5 : Int32) (o_count : Int32) (o_wins : Nat → Int64), m_X2_compute_c26 p1_stones0 p1_stones1 p1_board_size p1_board_cells p1_board_all p1_board_upper p1_board_lower p1_board_left p1_board_right  n v3 v5 o_count o_wins = some o → ∀ (H : Heap) (locs : List Loc), va_P D vwCl ([cX2 a0 a1 o_count, aJ C a1 64 o_wins]) H → va_D A ([cX2 a0 a1 o_count, aJ C a1 64 o_wins]) → va_S A s.heap H locs → ∀ (ls : Array Slot), lv_has ls 8 [(0, .ref a0), (1, .ref z0), (2, .ref z1), (3, .long v3), (5, .int v5)] → W p l e R_X2_compute s m args below meth c H locs 0 0 (MQ below (QWv D ([cX2 a0 a1 o.1, aJ C a1 64 o.2]) A) args s 0 0 A) (F0 m 26 ls []) := by
  have hx := hc.1
  have hb := hc.2.1
  have hown := hc.2.2.2.2.1
  have hts := hc.2.2.2.2.2.1
  intro n
  induction n with
  | zero =>
    intro v3 v5 o_count o_wins hf
    exact no_some hf
  | succ n ih =>
    intro v3 v5 o_count o_wins hf H locs hP hD hS ls hl
    refine lv_iload hx hb dX2_compute_26 (lv_at hl 4 rfl) ?_
    refine lv_aload_n hx hb dX2_compute_28 rfl (lv_at hl 0 rfl) ?_
    refine va_get (D := D) (ci := 2) (v := .ref a1) (C := RX2) (T := TX2) (N := 2) hx hb hts inX2 hown hK hP 0 rfl rfl 0 (by decide) (hts _ q_37) (fun _ h9 => h9) rfl dX2_compute_29 ?_
    refine va_alen (ty := .long) hx hb hK hP 1 1 rfl rfl (v := (64 : Int32)) rfl dX2_compute_32 ?_
    refine lv_icmp_ge (tgt := 50) hx hb dX2_compute_33 (by decide) (fun c1 => ?_) (fun c1 => ?_)
    · have hf := if_t hf c1
      refine lv_lconst (v := (0 : Int64)) hx hb dX2_compute_50 (by decide) ?_
      refine lv_lstore (lv' := [(5, .long (0 : Int64)), (0, .ref a0), (1, .ref z0), (2, .ref z1), (3, .long v3)]) hx hb dX2_compute_51 hl (by decide) rfl (fun ls hl => ?_)
      refine lv_iconst (v := (0 : Int32)) hx hb dX2_compute_53 (by decide) ?_
      refine lv_istore (lv' := [(7, .int (0 : Int32)), (5, .long (0 : Int64)), (0, .ref a0), (1, .ref z0), (2, .ref z1), (3, .long v3)]) hx hb dX2_compute_54 hl (by decide) rfl (fun ls hl => ?_)
      exact w_X2_compute_c56 hc hK hA hO hN hT  FU v3 (0 : Int64) (0 : Int32) o_count o_wins hf _ _ hP hD hS ls (lv_sub hl [2, 3, 4, 5, 1, 0] rfl)
    · have hf := if_f hf c1
      refine lv_aload_n hx hb dX2_compute_36 rfl (lv_at hl 0 rfl) ?_
      refine va_get (D := D) (ci := 2) (v := .ref a1) (C := RX2) (T := TX2) (N := 2) hx hb hts inX2 hown hK hP 0 rfl rfl 0 (by decide) (hts _ q_37) (fun _ h9 => h9) rfl dX2_compute_37 ?_
      refine lv_iload hx hb dX2_compute_40 (lv_at hl 4 rfl) ?_
      refine lv_lconst (v := (0 : Int64)) hx hb dX2_compute_42 (by decide) ?_
      obtain ⟨h7, hf⟩ := ok_t hf
      refine va_last hx hb hK hP hD hS 1 1 rfl rfl (okI_in h7) dX2_compute_43 (fun H locs hP hD hS => ?_)
      have hP : va_P D vwCl ([cX2 a0 a1 o_count, aJ C a1 64 (vp_updL o_wins v5.toNatClampNeg (0 : Int64))]) H := hP
      have hD : va_D A ([cX2 a0 a1 o_count, aJ C a1 64 (vp_updL o_wins v5.toNatClampNeg (0 : Int64))]) := hD
      refine lv_iinc (v := (v5 + (1 : Int32))) (lv' := [(5, .int (v5 + (1 : Int32))), (0, .ref a0), (1, .ref z0), (2, .ref z1), (3, .long v3)]) hx hb dX2_compute_44 hl (k := 4) rfl rfl (by decide) rfl (fun ls hl => ?_)
      refine lv_goto (tgt := 26) hx hb dX2_compute_47 (by decide) ?_
      exact ih v3 (v5 + (1 : Int32)) o_count (vp_updL o_wins v5.toNatClampNeg (0 : Int64)) hf _ _ hP hD hS ls (lv_sub hl [1, 2, 3, 4, 0] rfl)
def m_X2_compute (o_wins : Nat → Int64) (p1_stones0 : Int64) (p1_stones1 : Int64) (p1_board_size : Int32) (p1_board_cells : Int32) (p1_board_all : Int64) (p1_board_upper : Int64) (p1_board_lower : Int64) (p1_board_left : Int64) (p1_board_right : Int64) : Option (Int32 × (Nat → Int64)) := (m_X2_compute_c26 p1_stones0 p1_stones1 p1_board_size p1_board_cells p1_board_all p1_board_upper p1_board_lower p1_board_left p1_board_right FU (m_X3_free p1_stones0 p1_stones1 p1_board_all) (0 : Int32) (jmin (12 : Int32) (m_J13_bitCount_95d88 (m_X3_free p1_stones0 p1_stones1 p1_board_all))) o_wins)
set_option maxHeartbeats 4000000 in
set_option maxRecDepth 100000 in
theorem c_X2_compute (l : Launch) (D : va_G) (C : Nat → ClassId) (tp : Nat) (sz : Nat) (a0 : Nat) (a1 : Nat) (z0 : Nat) (z1 : Nat) (o_count : Int32) (o_wins : Nat → Int64) (p1_made : Int32) (p1_known : Int32) (r_p1_list : Nat) (p1_stones0 : Int64) (p1_stones1 : Int64) (p1_board_size : Int32) (p1_board_cells : Int32) (p1_board_all : Int64) (p1_board_upper : Int64) (p1_board_lower : Int64) (p1_board_left : Int64) (p1_board_right : Int64) (o : Int32 × (Nat → Int64)) (hf : m_X2_compute o_wins p1_stones0 p1_stones1 p1_board_size p1_board_cells p1_board_all p1_board_upper p1_board_lower p1_board_left p1_board_right = some o) : Met l yX2_compute (wl yX2_compute cX2_compute 8 none) R_X2_compute (PWX [.ref a0, .ref z0] D C tp sz ([cX2 a0 a1 o_count, aJ C a1 64 o_wins]) [cX3 z0 z1 p1_made p1_known r_p1_list p1_stones0 p1_stones1, cX0 z1 p1_board_size p1_board_cells p1_board_all p1_board_upper p1_board_lower p1_board_left p1_board_right]) (QWv D ([cX2 a0 a1 o.1, aJ C a1 64 o.2]) (va_A ([cX2 a0 a1 o_count, aJ C a1 64 o_wins]) sz)) 0 0 (va_A ([cX2 a0 a1 o_count, aJ C a1 64 o_wins]) sz) := by
  refine Met_ofC (by decide) ?_
  intro p e s m args below meth c hc hv
  obtain ⟨rfl, hsz, hP, hK, hD0, hO, hN0, hT0⟩ := hv
  subst hsz
  have hT : Xt tp (va_A ([cX2 a0 a1 o_count, aJ C a1 64 o_wins]) s.heap.size) s s.heap := hT0
  have hD := hD0.self (sz := s.heap.size)
  have hN : ∀ q ∈ [cX3 z0 z1 p1_made p1_known r_p1_list p1_stones0 p1_stones1, cX0 z1 p1_board_size p1_board_cells p1_board_all p1_board_upper p1_board_lower p1_board_left p1_board_right], ¬ va_A ([cX2 a0 a1 o_count, aJ C a1 64 o_wins]) s.heap.size q.1 := hN0
  generalize hAe : va_A ([cX2 a0 a1 o_count, aJ C a1 64 o_wins]) s.heap.size = A at hD hN hT ⊢
  have hA : ∀ q : Nat, s.heap.size ≤ q → A q := fun q h => by rw [← hAe]; exact Or.inr h
  have hS : va_S A s.heap s.heap [] := va_S.rf
  have hx := hc.1
  have hb := hc.2.1
  have hown := hc.2.2.2.2.1
  have hts := hc.2.2.2.2.2.1
  refine en_F rfl (fun ls hl => ?_)
  have hl : lv_has ls 8 [(0, .ref a0), (1, .ref z0)] := hl
  refine lv_aload_n hx hb dX2_compute_0 rfl (lv_at hl 1 rfl) ?_
  refine va_get (D := D) (ci := 3) (v := .ref z1) (C := RX3) (T := TX3) (N := 6) hx hb hts inX3 hown hK (ro_S hO hN hS) 0 rfl rfl 0 (by decide) (hts _ q_93) (fun _ h9 => h9) rfl dX2_compute_1 ?_
  refine lv_astore_n (lv' := [(2, .ref z1), (0, .ref a0), (1, .ref z0)]) hx hb dX2_compute_4 rfl hl (by decide) rfl (fun ls hl => ?_)
  refine lv_aload_n hx hb dX2_compute_5 rfl (lv_at hl 2 rfl) ?_
  refine rcVl (As := []) (rest := []) hc k_X2_21 (c_X3_free l D C z0 z1 p1_made p1_known r_p1_list p1_stones0 p1_stones1 p1_board_size p1_board_cells p1_board_all p1_board_upper p1_board_lower p1_board_left p1_board_right  _ rfl) ⟨rfl, rfl, Nat.le_of_ble_eq_true rfl, Nat.le_of_ble_eq_true rfl⟩ ((hP.app (ro_S hO hN hS)).sub [2, 3] rfl) hK (q0 := 0) rfl rfl rfl hl rfl rfl (Nat.le_of_ble_eq_true rfl) ⟨Nat.zero_le _, Nat.zero_le _⟩ dX2_compute_6 ?_
  refine lv_lstore_n (lv' := [(3, .long (m_X3_free p1_stones0 p1_stones1 p1_board_all)), (2, .ref z1), (0, .ref a0), (1, .ref z0)]) hx hb dX2_compute_9 rfl hl (by decide) rfl (fun ls hl => ?_)
  refine lv_aload_n hx hb dX2_compute_10 rfl (lv_at hl 2 rfl) ?_
  refine lv_bipush (v := (12 : Int32)) hx hb dX2_compute_11 (by decide) ?_
  refine lv_lload_n hx hb dX2_compute_13 rfl (lv_at hl 0 rfl) ?_
  refine rcSi (As := [.long (m_X3_free p1_stones0 p1_stones1 p1_board_all)]) (rest := [.int (12 : Int32), .ref a0]) hc k_X2_25 (c_J13_bitCount_95d88 l D C (m_X3_free p1_stones0 p1_stones1 p1_board_all)  _ rfl) ⟨rfl, rfl, Nat.le_of_ble_eq_true rfl, Nat.le_of_ble_eq_true rfl⟩ (hP.sub [] rfl) hK hl rfl rfl (Nat.le_of_ble_eq_true rfl) ⟨Nat.zero_le _, Nat.zero_le _⟩ dX2_compute_14 ?_
  refine va_mmin hx hb (hc.2.2.2.1.trans hl.1.symm) hown (hts _ q_409) (hts _ q_410) (hts _ q_9) (hts _ q_411) (Nat.le_of_ble_eq_true rfl) (Nat.le_of_ble_eq_true rfl) (Nat.zero_le _) (Nat.zero_le _) dX2_compute_17 ?_
  refine va_put (D := D) (ci := 2) (v := .int (jmin (12 : Int32) (m_J13_bitCount_95d88 (m_X3_free p1_stones0 p1_stones1 p1_board_all)))) (ty := .int) (C := RX2) (T := TX2) (N := 2) hx hb hts inX2 tyX2 tyX2_ok nmX2 hown hK hP hD hS 0 rfl rfl 1 (by decide) (hts _ q_38) (fun _ h9 => h9) rfl (by decide +kernel) rfl rfl (Nat.le_of_ble_eq_true rfl) dX2_compute_20 (fun H locs hP hD hS => ?_)
  have hP : va_P D vwCl ([cX2 a0 a1 (jmin (12 : Int32) (m_J13_bitCount_95d88 (m_X3_free p1_stones0 p1_stones1 p1_board_all))), aJ C a1 64 o_wins]) H := hP
  have hD : va_D A ([cX2 a0 a1 (jmin (12 : Int32) (m_J13_bitCount_95d88 (m_X3_free p1_stones0 p1_stones1 p1_board_all))), aJ C a1 64 o_wins]) := hD
  refine lv_iconst (v := (0 : Int32)) hx hb dX2_compute_23 (by decide) ?_
  refine lv_istore (lv' := [(5, .int (0 : Int32)), (3, .long (m_X3_free p1_stones0 p1_stones1 p1_board_all)), (2, .ref z1), (0, .ref a0), (1, .ref z0)]) hx hb dX2_compute_24 hl (by decide) rfl (fun ls hl => ?_)
  exact w_X2_compute_c26 hc hK hA hO hN hT  FU (m_X3_free p1_stones0 p1_stones1 p1_board_all) (0 : Int32) (jmin (12 : Int32) (m_J13_bitCount_95d88 (m_X3_free p1_stones0 p1_stones1 p1_board_all))) o_wins hf _ _ hP hD hS ls (lv_sub hl [3, 4, 2, 1, 0] rfl)
abbrev R_X2_wonByFirst : Room := { frames := 1, cells := 0, slots := 0, locals := 21 }
def m_X2_wonByFirst_c4 (o_wins : Nat → Int64)  : Nat → Int32 → Int32 → Option (Int32)
  | 0, _, _ => none
  | n + 1, v1, v2 => (if (64 : Int32) ≤ v2 then some v1 else (if okI v2 64 = true then (m_X2_wonByFirst_c4 o_wins  n (v1 + (m_J13_bitCount_95d88 (o_wins v2.toNatClampNeg))) (v2 + (1 : Int32))) else none))
set_option maxHeartbeats 4000000 in
set_option maxRecDepth 100000 in
theorem w_X2_wonByFirst_c4 {p : Program} {l : Launch} {e : Env} {s : State} {m : MethodId} {args : Array Value} {below : List Frame} {meth : Method} {c : Code} {D : va_G} {C : Nat → ClassId} {z0 : Nat} {z1 : Nat} {o_count : Int32} {o_wins : Nat → Int64} {o : Int32} (hc : Cx p s m args meth c yX2_wonByFirst cX2_wonByFirst 3 (some .int)) (hK : va_K D vwCl (TY C) s) (hP : va_P D vwCl [cX2 z0 z1 o_count, aJ C z1 64 o_wins] s.heap) : ∀ (n : Nat), ∀ (v1 : Int32) (v2 : Int32), m_X2_wonByFirst_c4 o_wins  n v1 v2 = some o → ∀ (ls : Array Slot), lv_has ls 3 [(0, .ref z0), (1, .int v1), (2, .int v2)] → W p l e R_X2_wonByFirst s m args below meth c s.heap [] 0 0 (MQ below (vp_Si (fun r => r = o)) args s 0 0 (fun _ => False)) (F0 m 4 ls []) := by
  have hx := hc.1
  have hb := hc.2.1
  have hown := hc.2.2.2.2.1
  have hts := hc.2.2.2.2.2.1
  intro n
  induction n with
  | zero =>
    intro v1 v2 hf
    exact no_some hf
  | succ n ih =>
    intro v1 v2 hf ls hl
    refine lv_iload_n hx hb dX2_wonByFirst_4 rfl (lv_at hl 2 rfl) ?_
    refine lv_aload_n hx hb dX2_wonByFirst_5 rfl (lv_at hl 0 rfl) ?_
    refine va_get (D := D) (ci := 2) (v := .ref z1) (C := RX2) (T := TX2) (N := 2) hx hb hts inX2 hown hK hP 0 rfl rfl 0 (by decide) (hts _ q_37) (fun _ h9 => h9) rfl dX2_wonByFirst_6 ?_
    refine va_alen (ty := .long) hx hb hK hP 1 1 rfl rfl (v := (64 : Int32)) rfl dX2_wonByFirst_9 ?_
    refine lv_icmp_ge (tgt := 31) hx hb dX2_wonByFirst_10 (by decide) (fun c1 => ?_) (fun c1 => ?_)
    · have hf := if_t hf c1
      refine lv_iload_n hx hb dX2_wonByFirst_31 rfl (lv_at hl 1 rfl) ?_
      exact rRi hc (Option.some.inj hf) dX2_wonByFirst_32
    · have hf := if_f hf c1
      refine lv_iload_n hx hb dX2_wonByFirst_13 rfl (lv_at hl 1 rfl) ?_
      refine lv_aload_n hx hb dX2_wonByFirst_14 rfl (lv_at hl 0 rfl) ?_
      refine va_get (D := D) (ci := 2) (v := .ref z1) (C := RX2) (T := TX2) (N := 2) hx hb hts inX2 hown hK hP 0 rfl rfl 0 (by decide) (hts _ q_37) (fun _ h9 => h9) rfl dX2_wonByFirst_15 ?_
      refine lv_iload_n hx hb dX2_wonByFirst_18 rfl (lv_at hl 2 rfl) ?_
      obtain ⟨h2, hf⟩ := ok_t hf
      refine va_lald hx hb hK hP 1 1 rfl rfl (okI_in h2) dX2_wonByFirst_19 ?_
      refine rcSi (As := [.long (o_wins v2.toNatClampNeg)]) (rest := [.int v1]) hc k_X2_25 (c_J13_bitCount_95d88 l D C (o_wins v2.toNatClampNeg)  _ rfl) ⟨rfl, rfl, Nat.le_of_ble_eq_true rfl, Nat.le_of_ble_eq_true rfl⟩ (hP.sub [] rfl) hK hl rfl rfl (Nat.le_of_ble_eq_true rfl) ⟨Nat.zero_le _, Nat.zero_le _⟩ dX2_wonByFirst_20 ?_
      refine lv_iadd hx hb dX2_wonByFirst_23 ?_
      refine lv_istore_n (lv' := [(1, .int (v1 + (m_J13_bitCount_95d88 (o_wins v2.toNatClampNeg)))), (0, .ref z0), (2, .int v2)]) hx hb dX2_wonByFirst_24 rfl hl (by decide) rfl (fun ls hl => ?_)
      refine lv_iinc (v := (v2 + (1 : Int32))) (lv' := [(2, .int (v2 + (1 : Int32))), (1, .int (v1 + (m_J13_bitCount_95d88 (o_wins v2.toNatClampNeg)))), (0, .ref z0)]) hx hb dX2_wonByFirst_25 hl (k := 2) rfl rfl (by decide) rfl (fun ls hl => ?_)
      refine lv_goto (tgt := 4) hx hb dX2_wonByFirst_28 (by decide) ?_
      exact ih (v1 + (m_J13_bitCount_95d88 (o_wins v2.toNatClampNeg))) (v2 + (1 : Int32)) hf ls (lv_sub hl [2, 1, 0] rfl)
def m_X2_wonByFirst (o_wins : Nat → Int64) : Option (Int32) := (m_X2_wonByFirst_c4 o_wins FU (0 : Int32) (0 : Int32))
set_option maxHeartbeats 4000000 in
set_option maxRecDepth 100000 in
theorem c_X2_wonByFirst (l : Launch) (D : va_G) (C : Nat → ClassId) (z0 : Nat) (z1 : Nat) (o_count : Int32) (o_wins : Nat → Int64) (o : Int32) (hf : m_X2_wonByFirst o_wins = some o) : Met l yX2_wonByFirst (wl yX2_wonByFirst cX2_wonByFirst 3 (some .int)) R_X2_wonByFirst (PR [.ref z0] D C [cX2 z0 z1 o_count, aJ C z1 64 o_wins]) (vp_Si (fun r => r = o)) 0 0 (fun _ => False) := by
  refine Met_ofC (by decide) ?_
  intro p e s m args below meth c hc hv
  obtain ⟨rfl, hP, hK⟩ := hv
  have hx := hc.1
  have hb := hc.2.1
  have hown := hc.2.2.2.2.1
  have hts := hc.2.2.2.2.2.1
  refine en_F rfl (fun ls hl => ?_)
  have hl : lv_has ls 3 [(0, .ref z0)] := hl
  refine lv_iconst (v := (0 : Int32)) hx hb dX2_wonByFirst_0 (by decide) ?_
  refine lv_istore_n (lv' := [(1, .int (0 : Int32)), (0, .ref z0)]) hx hb dX2_wonByFirst_1 rfl hl (by decide) rfl (fun ls hl => ?_)
  refine lv_iconst (v := (0 : Int32)) hx hb dX2_wonByFirst_2 (by decide) ?_
  refine lv_istore_n (lv' := [(2, .int (0 : Int32)), (1, .int (0 : Int32)), (0, .ref z0)]) hx hb dX2_wonByFirst_3 rfl hl (by decide) rfl (fun ls hl => ?_)
  exact w_X2_wonByFirst_c4 hc hK hP  FU (0 : Int32) (0 : Int32) hf ls (lv_sub hl [2, 1, 0] rfl)
abbrev R_X2_isWon : Room := { frames := 0, cells := 0, slots := 0, locals := 0 }
def m_X2_isWon (o_wins : Nat → Int64) (p1 : Int32) : Option (Int32) := (if (64 : Int32) ≤ (jiushr p1 (6 : Int32)) then some (0 : Int32) else (if okI (jiushr p1 (6 : Int32)) 64 = true then (if ((jushr (o_wins (jiushr p1 (6 : Int32)).toNatClampNeg) (p1 &&& (63 : Int32))) &&& (1 : Int64)) = (0 : Int64) then some (0 : Int32) else some (1 : Int32)) else none))
set_option maxHeartbeats 4000000 in
set_option maxRecDepth 100000 in
theorem c_X2_isWon (l : Launch) (D : va_G) (C : Nat → ClassId) (z0 : Nat) (z1 : Nat) (o_count : Int32) (o_wins : Nat → Int64) (p1 : Int32) (o : Int32) (hf : m_X2_isWon o_wins p1 = some o) : Met l yX2_isWon (wl yX2_isWon cX2_isWon 3 (some .boolean)) R_X2_isWon (PR [.ref z0, .int p1] D C [cX2 z0 z1 o_count, aJ C z1 64 o_wins]) (vp_Si (fun r => r = o)) 0 0 (fun _ => False) := by
  refine Met_ofC (by decide) ?_
  intro p e s m args below meth c hc hv
  obtain ⟨rfl, hP, hK⟩ := hv
  have hx := hc.1
  have hb := hc.2.1
  have hown := hc.2.2.2.2.1
  have hts := hc.2.2.2.2.2.1
  refine en_F rfl (fun ls hl => ?_)
  have hl : lv_has ls 3 [(0, .ref z0), (1, .int p1)] := hl
  refine lv_iload_n hx hb dX2_isWon_0 rfl (lv_at hl 1 rfl) ?_
  refine lv_bipush (v := (6 : Int32)) hx hb dX2_isWon_1 (by decide) ?_
  refine lv_iushr (v := (jiushr p1 (6 : Int32))) hx hb dX2_isWon_3 rfl ?_
  refine lv_istore_n (lv' := [(2, .int (jiushr p1 (6 : Int32))), (0, .ref z0), (1, .int p1)]) hx hb dX2_isWon_4 rfl hl (by decide) rfl (fun ls hl => ?_)
  refine lv_iload_n hx hb dX2_isWon_5 rfl (lv_at hl 0 rfl) ?_
  refine lv_aload_n hx hb dX2_isWon_6 rfl (lv_at hl 1 rfl) ?_
  refine va_get (D := D) (ci := 2) (v := .ref z1) (C := RX2) (T := TX2) (N := 2) hx hb hts inX2 hown hK hP 0 rfl rfl 0 (by decide) (hts _ q_37) (fun _ h9 => h9) rfl dX2_isWon_7 ?_
  refine va_alen (ty := .long) hx hb hK hP 1 1 rfl rfl (v := (64 : Int32)) rfl dX2_isWon_10 ?_
  refine lv_icmp_ge (tgt := 36) hx hb dX2_isWon_11 (by decide) (fun c1 => ?_) (fun c1 => ?_)
  · have hf := if_t hf c1
    refine lv_iconst (v := (0 : Int32)) hx hb dX2_isWon_36 (by decide) ?_
    exact rRz hc rfl (Option.some.inj hf) dX2_isWon_37
  · have hf := if_f hf c1
    refine lv_aload_n hx hb dX2_isWon_14 rfl (lv_at hl 1 rfl) ?_
    refine va_get (D := D) (ci := 2) (v := .ref z1) (C := RX2) (T := TX2) (N := 2) hx hb hts inX2 hown hK hP 0 rfl rfl 0 (by decide) (hts _ q_37) (fun _ h9 => h9) rfl dX2_isWon_15 ?_
    refine lv_iload_n hx hb dX2_isWon_18 rfl (lv_at hl 0 rfl) ?_
    obtain ⟨h2, hf⟩ := ok_t hf
    refine va_lald hx hb hK hP 1 1 rfl rfl (okI_in h2) dX2_isWon_19 ?_
    refine lv_iload_n hx hb dX2_isWon_20 rfl (lv_at hl 2 rfl) ?_
    refine lv_bipush (v := (63 : Int32)) hx hb dX2_isWon_21 (by decide) ?_
    refine lv_iand hx hb dX2_isWon_23 ?_
    refine lv_lushr (v := (jushr (o_wins (jiushr p1 (6 : Int32)).toNatClampNeg) (p1 &&& (63 : Int32)))) hx hb dX2_isWon_24 rfl ?_
    refine lv_lconst (v := (1 : Int64)) hx hb dX2_isWon_25 (by decide) ?_
    refine lv_land hx hb dX2_isWon_26 ?_
    refine lv_lconst (v := (0 : Int64)) hx hb dX2_isWon_27 (by decide) ?_
    refine lc_eq (tgt := 36) hx hb dX2_isWon_28 dX2_isWon_29 (by decide) (fun c3 => ?_) (fun c3 => ?_)
    · have hf := if_t hf c3
      refine lv_iconst (v := (0 : Int32)) hx hb dX2_isWon_36 (by decide) ?_
      exact rRz hc rfl (Option.some.inj hf) dX2_isWon_37
    · have hf := if_f hf c3
      refine lv_iconst (v := (1 : Int32)) hx hb dX2_isWon_32 (by decide) ?_
      refine lv_goto (tgt := 37) hx hb dX2_isWon_33 (by decide) ?_
      exact rRz hc rfl (Option.some.inj hf) dX2_isWon_37
abbrev R_X2_decidedBy : Room := { frames := 1, cells := 0, slots := 0, locals := 22 }
def m_X2_decidedBy_c45  (k9 : Int32 → Int32 → Int32 → Option (Int32)) (v2 : Int32) (v3 : Int32) (v4 : Int32) : Option (Int32) := (k9 v2 v3 (v4 + (1 : Int32)))
set_option maxHeartbeats 4000000 in
set_option maxRecDepth 100000 in
theorem w_X2_decidedBy_c45 {p : Program} {l : Launch} {e : Env} {s : State} {m : MethodId} {args : Array Value} {below : List Frame} {meth : Method} {c : Code} {D : va_G} {C : Nat → ClassId} {z0 : Nat} {z1 : Nat} {o_count : Int32} {o_wins : Nat → Int64} {o : Int32} (hc : Cx p s m args meth c yX2_decidedBy cX2_decidedBy 5 (some .int)) (hK : va_K D vwCl (TY C) s) (hP : va_P D vwCl [cX2 z0 z1 o_count, aJ C z1 64 o_wins] s.heap) (k9 : Int32 → Int32 → Int32 → Option (Int32)) (hk9 : ∀ (v2 : Int32) (v3 : Int32) (v4 : Int32), k9 v2 v3 v4 = some o → ∀ (ls : Array Slot), lv_has ls 5 [(0, .ref z0), (2, .int v2), (3, .int v3), (4, .int v4)] → W p l e R_X2_decidedBy s m args below meth c s.heap [] 0 0 (MQ below (vp_Si (fun r => r = o)) args s 0 0 (fun _ => False)) (F0 m 9 ls [])) : ∀ (v2 : Int32) (v3 : Int32) (v4 : Int32), m_X2_decidedBy_c45  k9 v2 v3 v4 = some o → ∀ (ls : Array Slot), lv_has ls 5 [(0, .ref z0), (2, .int v2), (3, .int v3), (4, .int v4)] → W p l e R_X2_decidedBy s m args below meth c s.heap [] 0 0 (MQ below (vp_Si (fun r => r = o)) args s 0 0 (fun _ => False)) (F0 m 45 ls []) := by
  have hx := hc.1
  have hb := hc.2.1
  have hown := hc.2.2.2.2.1
  have hts := hc.2.2.2.2.2.1
  intro v2 v3 v4 hf ls hl
  refine lv_iinc (v := (v4 + (1 : Int32))) (lv' := [(4, .int (v4 + (1 : Int32))), (0, .ref z0), (2, .int v2), (3, .int v3)]) hx hb dX2_decidedBy_45 hl (k := 3) rfl rfl (by decide) rfl (fun ls hl => ?_)
  refine lv_goto (tgt := 9) hx hb dX2_decidedBy_48 (by decide) ?_
  exact hk9 v2 v3 (v4 + (1 : Int32)) hf ls (lv_sub hl [1, 2, 3, 0] rfl)
def m_X2_decidedBy_c9 (o_count : Int32) (o_wins : Nat → Int64)  : Nat → Int32 → Int32 → Int32 → Option (Int32)
  | 0, _, _, _ => none
  | n + 1, v2, v3, v4 => (if (m_X2_size o_count) ≤ v4 then some v3 else (if (v4 &&& v2) = 0 then ((m_X2_isWon o_wins v4).bind fun u3 => ((m_X2_isWon o_wins (v4 ||| v2)).bind fun u4 => (if u3 = u4 then (m_X2_decidedBy_c45 (m_X2_decidedBy_c9 o_count o_wins  n) v2 v3 v4) else (m_X2_decidedBy_c45 (m_X2_decidedBy_c9 o_count o_wins  n) v2 (v3 + (1 : Int32)) v4)))) else (m_X2_decidedBy_c45 (m_X2_decidedBy_c9 o_count o_wins  n) v2 v3 v4)))
set_option maxHeartbeats 4000000 in
set_option maxRecDepth 100000 in
theorem w_X2_decidedBy_c9 {p : Program} {l : Launch} {e : Env} {s : State} {m : MethodId} {args : Array Value} {below : List Frame} {meth : Method} {c : Code} {D : va_G} {C : Nat → ClassId} {z0 : Nat} {z1 : Nat} {o_count : Int32} {o_wins : Nat → Int64} {o : Int32} (hc : Cx p s m args meth c yX2_decidedBy cX2_decidedBy 5 (some .int)) (hK : va_K D vwCl (TY C) s) (hP : va_P D vwCl [cX2 z0 z1 o_count, aJ C z1 64 o_wins] s.heap) : ∀ (n : Nat), ∀ (v2 : Int32) (v3 : Int32) (v4 : Int32), m_X2_decidedBy_c9 o_count o_wins  n v2 v3 v4 = some o → ∀ (ls : Array Slot), lv_has ls 5 [(0, .ref z0), (2, .int v2), (3, .int v3), (4, .int v4)] → W p l e R_X2_decidedBy s m args below meth c s.heap [] 0 0 (MQ below (vp_Si (fun r => r = o)) args s 0 0 (fun _ => False)) (F0 m 9 ls []) := by
  have hx := hc.1
  have hb := hc.2.1
  have hown := hc.2.2.2.2.1
  have hts := hc.2.2.2.2.2.1
  intro n
  induction n with
  | zero =>
    intro v2 v3 v4 hf
    exact no_some hf
  | succ n ih =>
    intro v2 v3 v4 hf ls hl
    refine lv_iload hx hb dX2_decidedBy_9 (lv_at hl 3 rfl) ?_
    refine lv_aload_n hx hb dX2_decidedBy_11 rfl (lv_at hl 0 rfl) ?_
    refine rcVi (As := []) (rest := [.int v4]) hc k_X2_41 (c_X2_size l D C z0 z1 o_count  _ rfl) ⟨rfl, rfl, Nat.le_of_ble_eq_true rfl, Nat.le_of_ble_eq_true rfl⟩ (hP.sub [0] rfl) hK (q0 := 0) rfl rfl rfl hl rfl rfl (Nat.le_of_ble_eq_true rfl) ⟨Nat.zero_le _, Nat.zero_le _⟩ dX2_decidedBy_12 ?_
    refine lv_icmp_ge (tgt := 51) hx hb dX2_decidedBy_15 (by decide) (fun c1 => ?_) (fun c1 => ?_)
    · have hf := if_t hf c1
      refine lv_iload_n hx hb dX2_decidedBy_51 rfl (lv_at hl 2 rfl) ?_
      exact rRi hc (Option.some.inj hf) dX2_decidedBy_52
    · have hf := if_f hf c1
      refine lv_iload hx hb dX2_decidedBy_18 (lv_at hl 3 rfl) ?_
      refine lv_iload_n hx hb dX2_decidedBy_20 rfl (lv_at hl 1 rfl) ?_
      refine lv_iand hx hb dX2_decidedBy_21 ?_
      refine lv_if_ne (tgt := 45) hx hb dX2_decidedBy_22 (by decide) (fun c2 => ?_) (fun c2 => ?_)
      · have hf := if_f hf c2
        exact w_X2_decidedBy_c45 hc hK hP (m_X2_decidedBy_c9 o_count o_wins  n) ih v2 v3 v4 hf ls (lv_sub hl [0, 1, 2, 3] rfl)
      · have hf := if_t hf c2
        refine lv_aload_n hx hb dX2_decidedBy_25 rfl (lv_at hl 0 rfl) ?_
        refine lv_iload hx hb dX2_decidedBy_26 (lv_at hl 3 rfl) ?_
        obtain ⟨u3, hu3, hf⟩ := bind_some hf
        refine rcVi (As := [.int v4]) (rest := []) hc k_X2_66 (c_X2_isWon l D C z0 z1 o_count o_wins v4  _ hu3) ⟨rfl, rfl, Nat.le_of_ble_eq_true rfl, Nat.le_of_ble_eq_true rfl⟩ (hP.sub [0, 1] rfl) hK (q0 := 0) rfl rfl rfl hl rfl rfl (Nat.le_of_ble_eq_true rfl) ⟨Nat.zero_le _, Nat.zero_le _⟩ dX2_decidedBy_28 ?_
        refine lv_aload_n hx hb dX2_decidedBy_31 rfl (lv_at hl 0 rfl) ?_
        refine lv_iload hx hb dX2_decidedBy_32 (lv_at hl 3 rfl) ?_
        refine lv_iload_n hx hb dX2_decidedBy_34 rfl (lv_at hl 1 rfl) ?_
        refine lv_ior hx hb dX2_decidedBy_35 ?_
        obtain ⟨u4, hu4, hf⟩ := bind_some hf
        refine rcVi (As := [.int (v4 ||| v2)]) (rest := [.int u3]) hc k_X2_66 (c_X2_isWon l D C z0 z1 o_count o_wins (v4 ||| v2)  _ hu4) ⟨rfl, rfl, Nat.le_of_ble_eq_true rfl, Nat.le_of_ble_eq_true rfl⟩ (hP.sub [0, 1] rfl) hK (q0 := 0) rfl rfl rfl hl rfl rfl (Nat.le_of_ble_eq_true rfl) ⟨Nat.zero_le _, Nat.zero_le _⟩ dX2_decidedBy_36 ?_
        refine lv_icmp_eq (tgt := 45) hx hb dX2_decidedBy_39 (by decide) (fun c5 => ?_) (fun c5 => ?_)
        · have hf := if_t hf c5
          exact w_X2_decidedBy_c45 hc hK hP (m_X2_decidedBy_c9 o_count o_wins  n) ih v2 v3 v4 hf ls (lv_sub hl [0, 1, 2, 3] rfl)
        · have hf := if_f hf c5
          refine lv_iinc (v := (v3 + (1 : Int32))) (lv' := [(3, .int (v3 + (1 : Int32))), (0, .ref z0), (2, .int v2), (4, .int v4)]) hx hb dX2_decidedBy_42 hl (k := 2) rfl rfl (by decide) rfl (fun ls hl => ?_)
          exact w_X2_decidedBy_c45 hc hK hP (m_X2_decidedBy_c9 o_count o_wins  n) ih v2 (v3 + (1 : Int32)) v4 hf ls (lv_sub hl [1, 2, 0, 3] rfl)
def m_X2_decidedBy (o_count : Int32) (o_wins : Nat → Int64) (p1 : Int32) : Option (Int32) := (m_X2_decidedBy_c9 o_count o_wins FU ((1 : Int32) <<< (p1 &&& 31)) (0 : Int32) (0 : Int32))
set_option maxHeartbeats 4000000 in
set_option maxRecDepth 100000 in
theorem c_X2_decidedBy (l : Launch) (D : va_G) (C : Nat → ClassId) (z0 : Nat) (z1 : Nat) (o_count : Int32) (o_wins : Nat → Int64) (p1 : Int32) (o : Int32) (hf : m_X2_decidedBy o_count o_wins p1 = some o) : Met l yX2_decidedBy (wl yX2_decidedBy cX2_decidedBy 5 (some .int)) R_X2_decidedBy (PR [.ref z0, .int p1] D C [cX2 z0 z1 o_count, aJ C z1 64 o_wins]) (vp_Si (fun r => r = o)) 0 0 (fun _ => False) := by
  refine Met_ofC (by decide) ?_
  intro p e s m args below meth c hc hv
  obtain ⟨rfl, hP, hK⟩ := hv
  have hx := hc.1
  have hb := hc.2.1
  have hown := hc.2.2.2.2.1
  have hts := hc.2.2.2.2.2.1
  refine en_F rfl (fun ls hl => ?_)
  have hl : lv_has ls 5 [(0, .ref z0), (1, .int p1)] := hl
  refine lv_iconst (v := (1 : Int32)) hx hb dX2_decidedBy_0 (by decide) ?_
  refine lv_iload_n hx hb dX2_decidedBy_1 rfl (lv_at hl 1 rfl) ?_
  refine lv_ishl hx hb dX2_decidedBy_2 ?_
  refine lv_istore_n (lv' := [(2, .int ((1 : Int32) <<< (p1 &&& 31))), (0, .ref z0), (1, .int p1)]) hx hb dX2_decidedBy_3 rfl hl (by decide) rfl (fun ls hl => ?_)
  refine lv_iconst (v := (0 : Int32)) hx hb dX2_decidedBy_4 (by decide) ?_
  refine lv_istore_n (lv' := [(3, .int (0 : Int32)), (2, .int ((1 : Int32) <<< (p1 &&& 31))), (0, .ref z0), (1, .int p1)]) hx hb dX2_decidedBy_5 rfl hl (by decide) rfl (fun ls hl => ?_)
  refine lv_iconst (v := (0 : Int32)) hx hb dX2_decidedBy_6 (by decide) ?_
  refine lv_istore (lv' := [(4, .int (0 : Int32)), (3, .int (0 : Int32)), (2, .int ((1 : Int32) <<< (p1 &&& 31))), (0, .ref z0), (1, .int p1)]) hx hb dX2_decidedBy_7 hl (by decide) rfl (fun ls hl => ?_)
  exact w_X2_decidedBy_c9 hc hK hP  FU ((1 : Int32) <<< (p1 &&& 31)) (0 : Int32) (0 : Int32) hf ls (lv_sub hl [3, 2, 1, 0] rfl)

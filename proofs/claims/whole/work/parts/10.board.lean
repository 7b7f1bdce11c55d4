abbrev R_J13_bitCount_95d88 : Room := { frames := 0, cells := 0, slots := 0, locals := 0 }
def m_J13_bitCount_95d88 (p0 : Int64) : Int32 := (jlet (((p0 - ((jushr p0 (1 : Int32)) &&& (6148914691236517205 : Int64))) &&& (3689348814741910323 : Int64)) + ((jushr (p0 - ((jushr p0 (1 : Int32)) &&& (6148914691236517205 : Int64))) (2 : Int32)) &&& (3689348814741910323 : Int64))) fun x1 => (jlet (((x1 + (jushr x1 (4 : Int32))) &&& (1085102592571150095 : Int64)) + (jushr ((x1 + (jushr x1 (4 : Int32))) &&& (1085102592571150095 : Int64)) (8 : Int32))) fun x2 => (((x2 + (jushr x2 (16 : Int32))) + (jushr (x2 + (jushr x2 (16 : Int32))) (32 : Int32))).toInt32 &&& (127 : Int32))))
set_option maxHeartbeats 4000000 in
set_option maxRecDepth 100000 in
theorem c_J13_bitCount_95d88 (l : Launch) (D : va_G) (C : Nat → ClassId) (p0 : Int64) (o : Int32) (hf : m_J13_bitCount_95d88 p0 = o) : Met l yJ13_bitCount_95d88 (wl yJ13_bitCount_95d88 cJ13_bitCount_95d88 2 (some .int)) R_J13_bitCount_95d88 (PR [.long p0] D C ([] : va_W)) (vp_Si (fun r => r = o)) 0 0 (fun _ => False) := by
  refine Met_ofC (by decide) ?_
  intro p e s m args below meth c hc hv
  obtain ⟨rfl, hP, hK⟩ := hv
  have hx := hc.1
  have hb := hc.2.1
  have hown := hc.2.2.2.2.1
  have hts := hc.2.2.2.2.2.1
  refine en_F rfl (fun ls hl => ?_)
  have hl : lv_has ls 2 [(0, .long p0)] := hl
  refine lv_lload_n hx hb dJ13_bitCount_95d88_0 rfl (lv_at hl 0 rfl) ?_
  refine lv_lload_n hx hb dJ13_bitCount_95d88_1 rfl (lv_at hl 0 rfl) ?_
  refine lv_iconst (v := (1 : Int32)) hx hb dJ13_bitCount_95d88_2 (by decide) ?_
  refine lv_lushr (v := (jushr p0 (1 : Int32))) hx hb dJ13_bitCount_95d88_3 rfl ?_
  refine lv_ldc2 (v := (6148914691236517205 : Int64)) hx hb hown (hts _ q_258) dJ13_bitCount_95d88_4 ?_
  refine lv_land hx hb dJ13_bitCount_95d88_7 ?_
  refine lv_lsub hx hb dJ13_bitCount_95d88_8 ?_
  refine lv_lstore_n (lv' := [(0, .long (p0 - ((jushr p0 (1 : Int32)) &&& (6148914691236517205 : Int64))))]) hx hb dJ13_bitCount_95d88_9 rfl hl (by decide) rfl (fun ls hl => ?_)
  refine lv_lload_n hx hb dJ13_bitCount_95d88_10 rfl (lv_at hl 0 rfl) ?_
  refine lv_ldc2 (v := (3689348814741910323 : Int64)) hx hb hown (hts _ q_259) dJ13_bitCount_95d88_11 ?_
  refine lv_land hx hb dJ13_bitCount_95d88_14 ?_
  refine lv_lload_n hx hb dJ13_bitCount_95d88_15 rfl (lv_at hl 0 rfl) ?_
  refine lv_iconst (v := (2 : Int32)) hx hb dJ13_bitCount_95d88_16 (by decide) ?_
  refine lv_lushr (v := (jushr (p0 - ((jushr p0 (1 : Int32)) &&& (6148914691236517205 : Int64))) (2 : Int32))) hx hb dJ13_bitCount_95d88_17 rfl ?_
  refine lv_ldc2 (v := (3689348814741910323 : Int64)) hx hb hown (hts _ q_259) dJ13_bitCount_95d88_18 ?_
  refine lv_land hx hb dJ13_bitCount_95d88_21 ?_
  refine lv_ladd hx hb dJ13_bitCount_95d88_22 ?_
  refine lv_topl (fun x1 ex1 => ?_)
  have hf := jlet_t hf ex1
  refine lv_lstore_n (lv' := [(0, .long x1)]) hx hb dJ13_bitCount_95d88_23 rfl hl (by decide) rfl (fun ls hl => ?_)
  refine lv_lload_n hx hb dJ13_bitCount_95d88_24 rfl (lv_at hl 0 rfl) ?_
  refine lv_lload_n hx hb dJ13_bitCount_95d88_25 rfl (lv_at hl 0 rfl) ?_
  refine lv_iconst (v := (4 : Int32)) hx hb dJ13_bitCount_95d88_26 (by decide) ?_
  refine lv_lushr (v := (jushr x1 (4 : Int32))) hx hb dJ13_bitCount_95d88_27 rfl ?_
  refine lv_ladd hx hb dJ13_bitCount_95d88_28 ?_
  refine lv_ldc2 (v := (1085102592571150095 : Int64)) hx hb hown (hts _ q_260) dJ13_bitCount_95d88_29 ?_
  refine lv_land hx hb dJ13_bitCount_95d88_32 ?_
  refine lv_lstore_n (lv' := [(0, .long ((x1 + (jushr x1 (4 : Int32))) &&& (1085102592571150095 : Int64)))]) hx hb dJ13_bitCount_95d88_33 rfl hl (by decide) rfl (fun ls hl => ?_)
  refine lv_lload_n hx hb dJ13_bitCount_95d88_34 rfl (lv_at hl 0 rfl) ?_
  refine lv_lload_n hx hb dJ13_bitCount_95d88_35 rfl (lv_at hl 0 rfl) ?_
  refine lv_bipush (v := (8 : Int32)) hx hb dJ13_bitCount_95d88_36 (by decide) ?_
  refine lv_lushr (v := (jushr ((x1 + (jushr x1 (4 : Int32))) &&& (1085102592571150095 : Int64)) (8 : Int32))) hx hb dJ13_bitCount_95d88_38 rfl ?_
  refine lv_ladd hx hb dJ13_bitCount_95d88_39 ?_
  refine lv_topl (fun x2 ex2 => ?_)
  have hf := jlet_t hf ex2
  refine lv_lstore_n (lv' := [(0, .long x2)]) hx hb dJ13_bitCount_95d88_40 rfl hl (by decide) rfl (fun ls hl => ?_)
  refine lv_lload_n hx hb dJ13_bitCount_95d88_41 rfl (lv_at hl 0 rfl) ?_
  refine lv_lload_n hx hb dJ13_bitCount_95d88_42 rfl (lv_at hl 0 rfl) ?_
  refine lv_bipush (v := (16 : Int32)) hx hb dJ13_bitCount_95d88_43 (by decide) ?_
  refine lv_lushr (v := (jushr x2 (16 : Int32))) hx hb dJ13_bitCount_95d88_45 rfl ?_
  refine lv_ladd hx hb dJ13_bitCount_95d88_46 ?_
  refine lv_lstore_n (lv' := [(0, .long (x2 + (jushr x2 (16 : Int32))))]) hx hb dJ13_bitCount_95d88_47 rfl hl (by decide) rfl (fun ls hl => ?_)
  refine lv_lload_n hx hb dJ13_bitCount_95d88_48 rfl (lv_at hl 0 rfl) ?_
  refine lv_lload_n hx hb dJ13_bitCount_95d88_49 rfl (lv_at hl 0 rfl) ?_
  refine lv_bipush (v := (32 : Int32)) hx hb dJ13_bitCount_95d88_50 (by decide) ?_
  refine lv_lushr (v := (jushr (x2 + (jushr x2 (16 : Int32))) (32 : Int32))) hx hb dJ13_bitCount_95d88_52 rfl ?_
  refine lv_ladd hx hb dJ13_bitCount_95d88_53 ?_
  refine lv_lstore_n (lv' := [(0, .long ((x2 + (jushr x2 (16 : Int32))) + (jushr (x2 + (jushr x2 (16 : Int32))) (32 : Int32))))]) hx hb dJ13_bitCount_95d88_54 rfl hl (by decide) rfl (fun ls hl => ?_)
  refine lv_lload_n hx hb dJ13_bitCount_95d88_55 rfl (lv_at hl 0 rfl) ?_
  refine lv_l2i (v := ((x2 + (jushr x2 (16 : Int32))) + (jushr (x2 + (jushr x2 (16 : Int32))) (32 : Int32))).toInt32) hx hb dJ13_bitCount_95d88_56 rfl ?_
  refine lv_bipush (v := (127 : Int32)) hx hb dJ13_bitCount_95d88_57 (by decide) ?_
  refine lv_iand hx hb dJ13_bitCount_95d88_59 ?_
  exact rRi hc hf dJ13_bitCount_95d88_60
abbrev R_X0_init : Room := { frames := 1, cells := 0, slots := 0, locals := 20 }
def m_X0_init_c57 (p1 : Int32)  : Nat → Int64 → Int32 → Int32 → Int32 → Int64 → Int64 → Int64 → Int64 → Int64 → Option (Int32 × Int32 × Int64 × Int64 × Int64 × Int64 × Int64)
  | 0, _, _, _, _, _, _, _, _, _ => none
  | n + 1, v2, v4, o_size, o_cells, o_all, o_upper, o_lower, o_left, o_right => (if p1 ≤ v4 then some (o_size, o_cells, o_all, o_upper, o_lower, v2, (jshl v2 (p1 - (1 : Int32)))) else (m_X0_init_c57 p1  n (v2 ||| (jshl (1 : Int64) (v4 * p1))) (v4 + (1 : Int32)) o_size o_cells o_all o_upper o_lower o_left o_right))
set_option maxHeartbeats 4000000 in
set_option maxRecDepth 100000 in
theorem w_X0_init_c57 {p : Program} {l : Launch} {e : Env} {s : State} {m : MethodId} {args : Array Value} {below : List Frame} {meth : Method} {c : Code} {D : va_G} {C : Nat → ClassId} {A : Nat → Prop} {a0 : Nat} {p1 : Int32} {o : Int32 × Int32 × Int64 × Int64 × Int64 × Int64 × Int64} (hc : Cx p s m args meth c yX0_init cX0_init 5 none) (hK : va_K D vwCl (TY C) s) (hA : ∀ q : Nat, s.heap.size ≤ q → A q) (hO : va_P D vwCl ([] : va_W) s.heap) (hN : ∀ q ∈ ([] : va_W), ¬ A q.1) : ∀ (n : Nat), ∀ (v2 : Int64) (v4 : Int32) (o_size : Int32) (o_cells : Int32) (o_all : Int64) (o_upper : Int64) (o_lower : Int64) (o_left : Int64) (o_right : Int64), m_X0_init_c57 p1  n v2 v4 o_size o_cells o_all o_upper o_lower o_left o_right = some o → ∀ (H : Heap) (locs : List Loc), va_P D vwCl ([cX0 a0 o_size o_cells o_all o_upper o_lower o_left o_right]) H → va_D A ([cX0 a0 o_size o_cells o_all o_upper o_lower o_left o_right]) → va_S A s.heap H locs → ∀ (ls : Array Slot), lv_has ls 5 [(0, .ref a0), (1, .int p1), (2, .long v2), (4, .int v4)] → W p l e R_X0_init s m args below meth c H locs 0 0 (MQ below (QWv D ([cX0 a0 o.1 o.2.1 o.2.2.1 o.2.2.2.1 o.2.2.2.2.1 o.2.2.2.2.2.1 o.2.2.2.2.2.2]) A) args s 0 0 A) (F0 m 57 ls []) := by
  have hx := hc.1
  have hb := hc.2.1
  have hown := hc.2.2.2.2.1
  have hts := hc.2.2.2.2.2.1
  intro n
  induction n with
  | zero =>
    intro v2 v4 o_size o_cells o_all o_upper o_lower o_left o_right hf
    exact no_some hf
  | succ n ih =>
    intro v2 v4 o_size o_cells o_all o_upper o_lower o_left o_right hf H locs hP hD hS ls hl
    refine lv_iload hx hb dX0_init_57 (lv_at hl 3 rfl) ?_
    refine lv_iload_n hx hb dX0_init_59 rfl (lv_at hl 1 rfl) ?_
    refine lv_icmp_ge (tgt := 78) hx hb dX0_init_60 (by decide) (fun c1 => ?_) (fun c1 => ?_)
    · have hf := if_t hf c1
      refine lv_aload_n hx hb dX0_init_78 rfl (lv_at hl 0 rfl) ?_
      refine lv_lload_n hx hb dX0_init_79 rfl (lv_at hl 2 rfl) ?_
      refine va_putF (D := D) (ci := 0) (v := .long v2) (ty := .long) (C := RX0) (T := TX0) (N := 7) hx hb hts inX0 tyX0 tyX0_ok nmX0 hown hK hP hD hS 0 rfl rfl 5 (by decide) (hts _ q_65) (fun _ h9 => h9) rfl hc.2.2.2.2.2.2.2 rfl (by decide +kernel) rfl rfl (Nat.le_of_ble_eq_true rfl) dX0_init_80 (fun H locs hP hD hS => ?_)
      have hP : va_P D vwCl ([cX0 a0 o_size o_cells o_all o_upper o_lower v2 o_right]) H := hP
      have hD : va_D A ([cX0 a0 o_size o_cells o_all o_upper o_lower v2 o_right]) := hD
      refine lv_aload_n hx hb dX0_init_83 rfl (lv_at hl 0 rfl) ?_
      refine lv_lload_n hx hb dX0_init_84 rfl (lv_at hl 2 rfl) ?_
      refine lv_iload_n hx hb dX0_init_85 rfl (lv_at hl 1 rfl) ?_
      refine lv_iconst (v := (1 : Int32)) hx hb dX0_init_86 (by decide) ?_
      refine lv_isub hx hb dX0_init_87 ?_
      refine lv_lshl (v := (jshl v2 (p1 - (1 : Int32)))) hx hb dX0_init_88 rfl ?_
      refine va_putF (D := D) (ci := 0) (v := .long (jshl v2 (p1 - (1 : Int32)))) (ty := .long) (C := RX0) (T := TX0) (N := 7) hx hb hts inX0 tyX0 tyX0_ok nmX0 hown hK hP hD hS 0 rfl rfl 6 (by decide) (hts _ q_67) (fun _ h9 => h9) rfl hc.2.2.2.2.2.2.2 rfl (by decide +kernel) rfl rfl (Nat.le_of_ble_eq_true rfl) dX0_init_89 (fun H locs hP hD hS => ?_)
      have hP : va_P D vwCl ([cX0 a0 o_size o_cells o_all o_upper o_lower v2 (jshl v2 (p1 - (1 : Int32)))]) H := hP
      have hD : va_D A ([cX0 a0 o_size o_cells o_all o_upper o_lower v2 (jshl v2 (p1 - (1 : Int32)))]) := hD
      have hf := Option.some.inj hf
      subst hf
      exact rWv hc hP hD hS dX0_init_92
    · have hf := if_f hf c1
      refine lv_lload_n hx hb dX0_init_63 rfl (lv_at hl 2 rfl) ?_
      refine lv_lconst (v := (1 : Int64)) hx hb dX0_init_64 (by decide) ?_
      refine lv_iload hx hb dX0_init_65 (lv_at hl 3 rfl) ?_
      refine lv_iload_n hx hb dX0_init_67 rfl (lv_at hl 1 rfl) ?_
      refine lv_imul hx hb dX0_init_68 ?_
      refine lv_lshl (v := (jshl (1 : Int64) (v4 * p1))) hx hb dX0_init_69 rfl ?_
      refine lv_lor hx hb dX0_init_70 ?_
      refine lv_lstore_n (lv' := [(2, .long (v2 ||| (jshl (1 : Int64) (v4 * p1)))), (0, .ref a0), (1, .int p1), (4, .int v4)]) hx hb dX0_init_71 rfl hl (by decide) rfl (fun ls hl => ?_)
      refine lv_iinc (v := (v4 + (1 : Int32))) (lv' := [(4, .int (v4 + (1 : Int32))), (2, .long (v2 ||| (jshl (1 : Int64) (v4 * p1)))), (0, .ref a0), (1, .int p1)]) hx hb dX0_init_72 hl (k := 3) rfl rfl (by decide) rfl (fun ls hl => ?_)
      refine lv_goto (tgt := 57) hx hb dX0_init_75 (by decide) ?_
      exact ih (v2 ||| (jshl (1 : Int64) (v4 * p1))) (v4 + (1 : Int32)) o_size o_cells o_all o_upper o_lower o_left o_right hf _ _ hP hD hS ls (lv_sub hl [2, 3, 1, 0] rfl)
def m_X0_init (o_left : Int64) (o_right : Int64) (p1 : Int32) : Option (Int32 × Int32 × Int64 × Int64 × Int64 × Int64 × Int64) := (m_X0_init_c57 p1 FU (0 : Int64) (0 : Int32) p1 (p1 * p1) ((jshl (1 : Int64) (p1 * p1)) - (1 : Int64)) ((jshl (1 : Int64) p1) - (1 : Int64)) (jshl ((jshl (1 : Int64) p1) - (1 : Int64)) ((p1 * p1) - p1)) o_left o_right)
set_option maxHeartbeats 4000000 in
set_option maxRecDepth 100000 in
theorem c_X0_init (l : Launch) (D : va_G) (C : Nat → ClassId) (sz : Nat) (a0 : Nat) (o_size : Int32) (o_cells : Int32) (o_all : Int64) (o_upper : Int64) (o_lower : Int64) (o_left : Int64) (o_right : Int64) (p1 : Int32) (o : Int32 × Int32 × Int64 × Int64 × Int64 × Int64 × Int64) (hf : m_X0_init o_left o_right p1 = some o) : Met l yX0_init (wl yX0_init cX0_init 5 none) R_X0_init (PW [.ref a0, .int p1] D C sz ([cX0 a0 o_size o_cells o_all o_upper o_lower o_left o_right]) ([] : va_W)) (QWv D ([cX0 a0 o.1 o.2.1 o.2.2.1 o.2.2.2.1 o.2.2.2.2.1 o.2.2.2.2.2.1 o.2.2.2.2.2.2]) (va_A ([cX0 a0 o_size o_cells o_all o_upper o_lower o_left o_right]) sz)) 0 0 (va_A ([cX0 a0 o_size o_cells o_all o_upper o_lower o_left o_right]) sz) := by
  refine Met_ofC (by decide) ?_
  intro p e s m args below meth c hc hv
  obtain ⟨rfl, hsz, hP, hK, hD0, hO, hN0⟩ := hv
  subst hsz
  have hD := hD0.self (sz := s.heap.size)
  have hN : ∀ q ∈ ([] : va_W), ¬ va_A ([cX0 a0 o_size o_cells o_all o_upper o_lower o_left o_right]) s.heap.size q.1 := hN0
  generalize hAe : va_A ([cX0 a0 o_size o_cells o_all o_upper o_lower o_left o_right]) s.heap.size = A at hD hN ⊢
  have hA : ∀ q : Nat, s.heap.size ≤ q → A q := fun q h => by rw [← hAe]; exact Or.inr h
  have hS : va_S A s.heap s.heap [] := va_S.rf
  have hx := hc.1
  have hb := hc.2.1
  have hown := hc.2.2.2.2.1
  have hts := hc.2.2.2.2.2.1
  refine en_F rfl (fun ls hl => ?_)
  have hl : lv_has ls 5 [(0, .ref a0), (1, .int p1)] := hl
  refine lv_aload_n hx hb dX0_init_0 rfl (lv_at hl 0 rfl) ?_
  refine W.objInit hx hb hown (hts _ q_49) (hts _ q_16) (hts _ q_17) rfl (by rw [hc.2.2.2.1]; exact hl.1) rfl dX0_init_1 (Nat.le_of_ble_eq_true rfl) (Nat.le_of_ble_eq_true rfl) ?_
  refine W.eq (g2 := F0 m 4 ls []) rfl ?_
  refine lv_aload_n hx hb dX0_init_4 rfl (lv_at hl 0 rfl) ?_
  refine lv_iload_n hx hb dX0_init_5 rfl (lv_at hl 1 rfl) ?_
  refine va_putF (D := D) (ci := 0) (v := .int p1) (ty := .int) (C := RX0) (T := TX0) (N := 7) hx hb hts inX0 tyX0 tyX0_ok nmX0 hown hK hP hD hS 0 rfl rfl 0 (by decide) (hts _ q_50) (fun _ h9 => h9) rfl hc.2.2.2.2.2.2.2 rfl (by decide +kernel) rfl rfl (Nat.le_of_ble_eq_true rfl) dX0_init_6 (fun H locs hP hD hS => ?_)
  have hP : va_P D vwCl ([cX0 a0 p1 o_cells o_all o_upper o_lower o_left o_right]) H := hP
  have hD : va_D A ([cX0 a0 p1 o_cells o_all o_upper o_lower o_left o_right]) := hD
  refine lv_aload_n hx hb dX0_init_9 rfl (lv_at hl 0 rfl) ?_
  refine lv_iload_n hx hb dX0_init_10 rfl (lv_at hl 1 rfl) ?_
  refine lv_iload_n hx hb dX0_init_11 rfl (lv_at hl 1 rfl) ?_
  refine lv_imul hx hb dX0_init_12 ?_
  refine va_putF (D := D) (ci := 0) (v := .int (p1 * p1)) (ty := .int) (C := RX0) (T := TX0) (N := 7) hx hb hts inX0 tyX0 tyX0_ok nmX0 hown hK hP hD hS 0 rfl rfl 1 (by decide) (hts _ q_52) (fun _ h9 => h9) rfl hc.2.2.2.2.2.2.2 rfl (by decide +kernel) rfl rfl (Nat.le_of_ble_eq_true rfl) dX0_init_13 (fun H locs hP hD hS => ?_)
  have hP : va_P D vwCl ([cX0 a0 p1 (p1 * p1) o_all o_upper o_lower o_left o_right]) H := hP
  have hD : va_D A ([cX0 a0 p1 (p1 * p1) o_all o_upper o_lower o_left o_right]) := hD
  refine lv_aload_n hx hb dX0_init_16 rfl (lv_at hl 0 rfl) ?_
  refine lv_lconst (v := (1 : Int64)) hx hb dX0_init_17 (by decide) ?_
  refine lv_aload_n hx hb dX0_init_18 rfl (lv_at hl 0 rfl) ?_
  refine va_get (D := D) (ci := 0) (v := .int (p1 * p1)) (C := RX0) (T := TX0) (N := 7) hx hb hts inX0 hown hK hP 0 rfl rfl 1 (by decide) (hts _ q_52) (fun _ h9 => h9) rfl dX0_init_19 ?_
  refine lv_lshl (v := (jshl (1 : Int64) (p1 * p1))) hx hb dX0_init_22 rfl ?_
  refine lv_lconst (v := (1 : Int64)) hx hb dX0_init_23 (by decide) ?_
  refine lv_lsub hx hb dX0_init_24 ?_
  refine va_putF (D := D) (ci := 0) (v := .long ((jshl (1 : Int64) (p1 * p1)) - (1 : Int64))) (ty := .long) (C := RX0) (T := TX0) (N := 7) hx hb hts inX0 tyX0 tyX0_ok nmX0 hown hK hP hD hS 0 rfl rfl 2 (by decide) (hts _ q_54) (fun _ h9 => h9) rfl hc.2.2.2.2.2.2.2 rfl (by decide +kernel) rfl rfl (Nat.le_of_ble_eq_true rfl) dX0_init_25 (fun H locs hP hD hS => ?_)
  have hP : va_P D vwCl ([cX0 a0 p1 (p1 * p1) ((jshl (1 : Int64) (p1 * p1)) - (1 : Int64)) o_upper o_lower o_left o_right]) H := hP
  have hD : va_D A ([cX0 a0 p1 (p1 * p1) ((jshl (1 : Int64) (p1 * p1)) - (1 : Int64)) o_upper o_lower o_left o_right]) := hD
  refine lv_aload_n hx hb dX0_init_28 rfl (lv_at hl 0 rfl) ?_
  refine lv_lconst (v := (1 : Int64)) hx hb dX0_init_29 (by decide) ?_
  refine lv_iload_n hx hb dX0_init_30 rfl (lv_at hl 1 rfl) ?_
  refine lv_lshl (v := (jshl (1 : Int64) p1)) hx hb dX0_init_31 rfl ?_
  refine lv_lconst (v := (1 : Int64)) hx hb dX0_init_32 (by decide) ?_
  refine lv_lsub hx hb dX0_init_33 ?_
  refine va_putF (D := D) (ci := 0) (v := .long ((jshl (1 : Int64) p1) - (1 : Int64))) (ty := .long) (C := RX0) (T := TX0) (N := 7) hx hb hts inX0 tyX0 tyX0_ok nmX0 hown hK hP hD hS 0 rfl rfl 3 (by decide) (hts _ q_57) (fun _ h9 => h9) rfl hc.2.2.2.2.2.2.2 rfl (by decide +kernel) rfl rfl (Nat.le_of_ble_eq_true rfl) dX0_init_34 (fun H locs hP hD hS => ?_)
  have hP : va_P D vwCl ([cX0 a0 p1 (p1 * p1) ((jshl (1 : Int64) (p1 * p1)) - (1 : Int64)) ((jshl (1 : Int64) p1) - (1 : Int64)) o_lower o_left o_right]) H := hP
  have hD : va_D A ([cX0 a0 p1 (p1 * p1) ((jshl (1 : Int64) (p1 * p1)) - (1 : Int64)) ((jshl (1 : Int64) p1) - (1 : Int64)) o_lower o_left o_right]) := hD
  refine lv_aload_n hx hb dX0_init_37 rfl (lv_at hl 0 rfl) ?_
  refine lv_aload_n hx hb dX0_init_38 rfl (lv_at hl 0 rfl) ?_
  refine va_get (D := D) (ci := 0) (v := .long ((jshl (1 : Int64) p1) - (1 : Int64))) (C := RX0) (T := TX0) (N := 7) hx hb hts inX0 hown hK hP 0 rfl rfl 3 (by decide) (hts _ q_57) (fun _ h9 => h9) rfl dX0_init_39 ?_
  refine lv_aload_n hx hb dX0_init_42 rfl (lv_at hl 0 rfl) ?_
  refine va_get (D := D) (ci := 0) (v := .int (p1 * p1)) (C := RX0) (T := TX0) (N := 7) hx hb hts inX0 hown hK hP 0 rfl rfl 1 (by decide) (hts _ q_52) (fun _ h9 => h9) rfl dX0_init_43 ?_
  refine lv_iload_n hx hb dX0_init_46 rfl (lv_at hl 1 rfl) ?_
  refine lv_isub hx hb dX0_init_47 ?_
  refine lv_lshl (v := (jshl ((jshl (1 : Int64) p1) - (1 : Int64)) ((p1 * p1) - p1))) hx hb dX0_init_48 rfl ?_
  refine va_putF (D := D) (ci := 0) (v := .long (jshl ((jshl (1 : Int64) p1) - (1 : Int64)) ((p1 * p1) - p1))) (ty := .long) (C := RX0) (T := TX0) (N := 7) hx hb hts inX0 tyX0 tyX0_ok nmX0 hown hK hP hD hS 0 rfl rfl 4 (by decide) (hts _ q_61) (fun _ h9 => h9) rfl hc.2.2.2.2.2.2.2 rfl (by decide +kernel) rfl rfl (Nat.le_of_ble_eq_true rfl) dX0_init_49 (fun H locs hP hD hS => ?_)
  have hP : va_P D vwCl ([cX0 a0 p1 (p1 * p1) ((jshl (1 : Int64) (p1 * p1)) - (1 : Int64)) ((jshl (1 : Int64) p1) - (1 : Int64)) (jshl ((jshl (1 : Int64) p1) - (1 : Int64)) ((p1 * p1) - p1)) o_left o_right]) H := hP
  have hD : va_D A ([cX0 a0 p1 (p1 * p1) ((jshl (1 : Int64) (p1 * p1)) - (1 : Int64)) ((jshl (1 : Int64) p1) - (1 : Int64)) (jshl ((jshl (1 : Int64) p1) - (1 : Int64)) ((p1 * p1) - p1)) o_left o_right]) := hD
  refine lv_lconst (v := (0 : Int64)) hx hb dX0_init_52 (by decide) ?_
  refine lv_lstore_n (lv' := [(2, .long (0 : Int64)), (0, .ref a0), (1, .int p1)]) hx hb dX0_init_53 rfl hl (by decide) rfl (fun ls hl => ?_)
  refine lv_iconst (v := (0 : Int32)) hx hb dX0_init_54 (by decide) ?_
  refine lv_istore (lv' := [(4, .int (0 : Int32)), (2, .long (0 : Int64)), (0, .ref a0), (1, .int p1)]) hx hb dX0_init_55 hl (by decide) rfl (fun ls hl => ?_)
  exact w_X0_init_c57 hc hK hA hO hN  FU (0 : Int64) (0 : Int32) p1 (p1 * p1) ((jshl (1 : Int64) (p1 * p1)) - (1 : Int64)) ((jshl (1 : Int64) p1) - (1 : Int64)) (jshl ((jshl (1 : Int64) p1) - (1 : Int64)) ((p1 * p1) - p1)) o_left o_right hf _ _ hP hD hS ls (lv_sub hl [2, 3, 1, 0] rfl)
abbrev R_X0_around : Room := { frames := 0, cells := 0, slots := 0, locals := 0 }
def m_X0_around (o_size : Int32) (o_all : Int64) (o_left : Int64) (o_right : Int64) (p1 : Int64) : Int64 := (jlet (((jshl p1 (1 : Int32)) ||| (jushr p1 (o_size - (1 : Int32)))) &&& (o_left ^^^ (-1 : Int64))) fun x1 => (jlet (((jushr p1 (1 : Int32)) ||| (jshl p1 (o_size - (1 : Int32)))) &&& (o_right ^^^ (-1 : Int64))) fun x2 => ((((x1 ||| x2) ||| (jshl p1 o_size)) ||| (jushr p1 o_size)) &&& o_all)))
set_option maxHeartbeats 4000000 in
set_option maxRecDepth 100000 in
theorem c_X0_around (l : Launch) (D : va_G) (C : Nat → ClassId) (z0 : Nat) (o_size : Int32) (o_cells : Int32) (o_all : Int64) (o_upper : Int64) (o_lower : Int64) (o_left : Int64) (o_right : Int64) (p1 : Int64) (o : Int64) (hf : m_X0_around o_size o_all o_left o_right p1 = o) : Met l yX0_around (wl yX0_around cX0_around 7 (some .long)) R_X0_around (PR [.ref z0, .long p1] D C [cX0 z0 o_size o_cells o_all o_upper o_lower o_left o_right]) (vp_Sl (fun r => r = o)) 0 0 (fun _ => False) := by
  refine Met_ofC (by decide) ?_
  intro p e s m args below meth c hc hv
  obtain ⟨rfl, hP, hK⟩ := hv
  have hx := hc.1
  have hb := hc.2.1
  have hown := hc.2.2.2.2.1
  have hts := hc.2.2.2.2.2.1
  refine en_F rfl (fun ls hl => ?_)
  have hl : lv_has ls 7 [(0, .ref z0), (1, .long p1)] := hl
  refine lv_lload_n hx hb dX0_around_0 rfl (lv_at hl 1 rfl) ?_
  refine lv_iconst (v := (1 : Int32)) hx hb dX0_around_1 (by decide) ?_
  refine lv_lshl (v := (jshl p1 (1 : Int32))) hx hb dX0_around_2 rfl ?_
  refine lv_lload_n hx hb dX0_around_3 rfl (lv_at hl 1 rfl) ?_
  refine lv_aload_n hx hb dX0_around_4 rfl (lv_at hl 0 rfl) ?_
  refine va_get (D := D) (ci := 0) (v := .int o_size) (C := RX0) (T := TX0) (N := 7) hx hb hts inX0 hown hK hP 0 rfl rfl 0 (by decide) (hts _ q_50) (fun _ h9 => h9) rfl dX0_around_5 ?_
  refine lv_iconst (v := (1 : Int32)) hx hb dX0_around_8 (by decide) ?_
  refine lv_isub hx hb dX0_around_9 ?_
  refine lv_lushr (v := (jushr p1 (o_size - (1 : Int32)))) hx hb dX0_around_10 rfl ?_
  refine lv_lor hx hb dX0_around_11 ?_
  refine lv_aload_n hx hb dX0_around_12 rfl (lv_at hl 0 rfl) ?_
  refine va_get (D := D) (ci := 0) (v := .long o_left) (C := RX0) (T := TX0) (N := 7) hx hb hts inX0 hown hK hP 0 rfl rfl 5 (by decide) (hts _ q_65) (fun _ h9 => h9) rfl dX0_around_13 ?_
  refine lv_ldc2 (v := (-1 : Int64)) hx hb hown (hts _ q_219) dX0_around_16 ?_
  refine lv_lxor hx hb dX0_around_19 ?_
  refine lv_land hx hb dX0_around_20 ?_
  refine lv_topl (fun x1 ex1 => ?_)
  have hf := jlet_t hf ex1
  refine lv_lstore_n (lv' := [(3, .long x1), (0, .ref z0), (1, .long p1)]) hx hb dX0_around_21 rfl hl (by decide) rfl (fun ls hl => ?_)
  refine lv_lload_n hx hb dX0_around_22 rfl (lv_at hl 2 rfl) ?_
  refine lv_iconst (v := (1 : Int32)) hx hb dX0_around_23 (by decide) ?_
  refine lv_lushr (v := (jushr p1 (1 : Int32))) hx hb dX0_around_24 rfl ?_
  refine lv_lload_n hx hb dX0_around_25 rfl (lv_at hl 2 rfl) ?_
  refine lv_aload_n hx hb dX0_around_26 rfl (lv_at hl 1 rfl) ?_
  refine va_get (D := D) (ci := 0) (v := .int o_size) (C := RX0) (T := TX0) (N := 7) hx hb hts inX0 hown hK hP 0 rfl rfl 0 (by decide) (hts _ q_50) (fun _ h9 => h9) rfl dX0_around_27 ?_
  refine lv_iconst (v := (1 : Int32)) hx hb dX0_around_30 (by decide) ?_
  refine lv_isub hx hb dX0_around_31 ?_
  refine lv_lshl (v := (jshl p1 (o_size - (1 : Int32)))) hx hb dX0_around_32 rfl ?_
  refine lv_lor hx hb dX0_around_33 ?_
  refine lv_aload_n hx hb dX0_around_34 rfl (lv_at hl 1 rfl) ?_
  refine va_get (D := D) (ci := 0) (v := .long o_right) (C := RX0) (T := TX0) (N := 7) hx hb hts inX0 hown hK hP 0 rfl rfl 6 (by decide) (hts _ q_67) (fun _ h9 => h9) rfl dX0_around_35 ?_
  refine lv_ldc2 (v := (-1 : Int64)) hx hb hown (hts _ q_219) dX0_around_38 ?_
  refine lv_lxor hx hb dX0_around_41 ?_
  refine lv_land hx hb dX0_around_42 ?_
  refine lv_topl (fun x2 ex2 => ?_)
  have hf := jlet_t hf ex2
  refine lv_lstore (lv' := [(5, .long x2), (3, .long x1), (0, .ref z0), (1, .long p1)]) hx hb dX0_around_43 hl (by decide) rfl (fun ls hl => ?_)
  refine lv_lload_n hx hb dX0_around_45 rfl (lv_at hl 1 rfl) ?_
  refine lv_lload hx hb dX0_around_46 (lv_at hl 0 rfl) ?_
  refine lv_lor hx hb dX0_around_48 ?_
  refine lv_lload_n hx hb dX0_around_49 rfl (lv_at hl 3 rfl) ?_
  refine lv_aload_n hx hb dX0_around_50 rfl (lv_at hl 2 rfl) ?_
  refine va_get (D := D) (ci := 0) (v := .int o_size) (C := RX0) (T := TX0) (N := 7) hx hb hts inX0 hown hK hP 0 rfl rfl 0 (by decide) (hts _ q_50) (fun _ h9 => h9) rfl dX0_around_51 ?_
  refine lv_lshl (v := (jshl p1 o_size)) hx hb dX0_around_54 rfl ?_
  refine lv_lor hx hb dX0_around_55 ?_
  refine lv_lload_n hx hb dX0_around_56 rfl (lv_at hl 3 rfl) ?_
  refine lv_aload_n hx hb dX0_around_57 rfl (lv_at hl 2 rfl) ?_
  refine va_get (D := D) (ci := 0) (v := .int o_size) (C := RX0) (T := TX0) (N := 7) hx hb hts inX0 hown hK hP 0 rfl rfl 0 (by decide) (hts _ q_50) (fun _ h9 => h9) rfl dX0_around_58 ?_
  refine lv_lushr (v := (jushr p1 o_size)) hx hb dX0_around_61 rfl ?_
  refine lv_lor hx hb dX0_around_62 ?_
  refine lv_aload_n hx hb dX0_around_63 rfl (lv_at hl 2 rfl) ?_
  refine va_get (D := D) (ci := 0) (v := .long o_all) (C := RX0) (T := TX0) (N := 7) hx hb hts inX0 hown hK hP 0 rfl rfl 2 (by decide) (hts _ q_54) (fun _ h9 => h9) rfl dX0_around_64 ?_
  refine lv_land hx hb dX0_around_67 ?_
  exact rRl hc hf dX0_around_68
abbrev R_X0_floodUpTo : Room := { frames := 1, cells := 0, slots := 0, locals := 26 }
def m_X0_floodUpTo_c8 (o_size : Int32) (o_cells : Int32) (o_all : Int64) (o_left : Int64) (o_right : Int64) (p2 : Int64) (p3 : Int64)  : Nat → Int64 → Int32 → Option (Int64)
  | 0, _, _ => none
  | n + 1, v7, v9 => (if o_cells ≤ v9 then some v7 else (if (v7 &&& p3) = (0 : Int64) then (if ((v7 ||| (m_X0_around o_size o_all o_left o_right v7)) &&& p2) = v7 then some v7 else (m_X0_floodUpTo_c8 o_size o_cells o_all o_left o_right p2 p3  n ((v7 ||| (m_X0_around o_size o_all o_left o_right v7)) &&& p2) (v9 + (1 : Int32)))) else some v7))
set_option maxHeartbeats 4000000 in
set_option maxRecDepth 100000 in
theorem w_X0_floodUpTo_c8 {p : Program} {l : Launch} {e : Env} {s : State} {m : MethodId} {args : Array Value} {below : List Frame} {meth : Method} {c : Code} {D : va_G} {C : Nat → ClassId} {z0 : Nat} {o_size : Int32} {o_cells : Int32} {o_all : Int64} {o_upper : Int64} {o_lower : Int64} {o_left : Int64} {o_right : Int64} {p2 : Int64} {p3 : Int64} {o : Int64} (hc : Cx p s m args meth c yX0_floodUpTo cX0_floodUpTo 12 (some .long)) (hK : va_K D vwCl (TY C) s) (hP : va_P D vwCl [cX0 z0 o_size o_cells o_all o_upper o_lower o_left o_right] s.heap) : ∀ (n : Nat), ∀ (v7 : Int64) (v9 : Int32), m_X0_floodUpTo_c8 o_size o_cells o_all o_left o_right p2 p3  n v7 v9 = some o → ∀ (ls : Array Slot), lv_has ls 12 [(0, .ref z0), (3, .long p2), (5, .long p3), (7, .long v7), (9, .int v9)] → W p l e R_X0_floodUpTo s m args below meth c s.heap [] 0 0 (MQ below (vp_Sl (fun r => r = o)) args s 0 0 (fun _ => False)) (F0 m 8 ls []) := by
  have hx := hc.1
  have hb := hc.2.1
  have hown := hc.2.2.2.2.1
  have hts := hc.2.2.2.2.2.1
  intro n
  induction n with
  | zero =>
    intro v7 v9 hf
    exact no_some hf
  | succ n ih =>
    intro v7 v9 hf ls hl
    refine lv_iload hx hb dX0_floodUpTo_8 (lv_at hl 4 rfl) ?_
    refine lv_aload_n hx hb dX0_floodUpTo_10 rfl (lv_at hl 0 rfl) ?_
    refine va_get (D := D) (ci := 0) (v := .int o_cells) (C := RX0) (T := TX0) (N := 7) hx hb hts inX0 hown hK hP 0 rfl rfl 1 (by decide) (hts _ q_52) (fun _ h9 => h9) rfl dX0_floodUpTo_11 ?_
    refine lv_icmp_ge (tgt := 61) hx hb dX0_floodUpTo_14 (by decide) (fun c1 => ?_) (fun c1 => ?_)
    · have hf := if_t hf c1
      refine lv_lload hx hb dX0_floodUpTo_61 (lv_at hl 3 rfl) ?_
      exact rRl hc (Option.some.inj hf) dX0_floodUpTo_63
    · have hf := if_f hf c1
      refine lv_lload hx hb dX0_floodUpTo_17 (lv_at hl 3 rfl) ?_
      refine lv_lload hx hb dX0_floodUpTo_19 (lv_at hl 2 rfl) ?_
      refine lv_land hx hb dX0_floodUpTo_21 ?_
      refine lv_lconst (v := (0 : Int64)) hx hb dX0_floodUpTo_22 (by decide) ?_
      refine lc_ne (tgt := 61) hx hb dX0_floodUpTo_23 dX0_floodUpTo_24 (by decide) (fun c2 => ?_) (fun c2 => ?_)
      · have hf := if_f hf c2
        refine lv_lload hx hb dX0_floodUpTo_61 (lv_at hl 3 rfl) ?_
        exact rRl hc (Option.some.inj hf) dX0_floodUpTo_63
      · have hf := if_t hf c2
        refine lv_lload hx hb dX0_floodUpTo_27 (lv_at hl 3 rfl) ?_
        refine lv_aload_n hx hb dX0_floodUpTo_29 rfl (lv_at hl 0 rfl) ?_
        refine lv_lload hx hb dX0_floodUpTo_30 (lv_at hl 3 rfl) ?_
        refine rcVl (As := [.long v7]) (rest := [.long v7]) hc k_X0_38 (c_X0_around l D C z0 o_size o_cells o_all o_upper o_lower o_left o_right v7  _ rfl) ⟨rfl, rfl, Nat.le_of_ble_eq_true rfl, Nat.le_of_ble_eq_true rfl⟩ (hP.sub [0] rfl) hK (q0 := 0) rfl rfl rfl hl rfl rfl (Nat.le_of_ble_eq_true rfl) ⟨Nat.zero_le _, Nat.zero_le _⟩ dX0_floodUpTo_32 ?_
        refine lv_lor hx hb dX0_floodUpTo_35 ?_
        refine lv_lload_n hx hb dX0_floodUpTo_36 rfl (lv_at hl 1 rfl) ?_
        refine lv_land hx hb dX0_floodUpTo_37 ?_
        refine lv_lstore (lv' := [(10, .long ((v7 ||| (m_X0_around o_size o_all o_left o_right v7)) &&& p2)), (0, .ref z0), (3, .long p2), (5, .long p3), (7, .long v7), (9, .int v9)]) hx hb dX0_floodUpTo_38 hl (by decide) rfl (fun ls hl => ?_)
        refine lv_lload hx hb dX0_floodUpTo_40 (lv_at hl 0 rfl) ?_
        refine lv_lload hx hb dX0_floodUpTo_42 (lv_at hl 4 rfl) ?_
        refine lc_ne (tgt := 51) hx hb dX0_floodUpTo_44 dX0_floodUpTo_45 (by decide) (fun c3 => ?_) (fun c3 => ?_)
        · have hf := if_f hf c3
          refine lv_lload hx hb dX0_floodUpTo_51 (lv_at hl 0 rfl) ?_
          refine lv_lstore (lv' := [(7, .long ((v7 ||| (m_X0_around o_size o_all o_left o_right v7)) &&& p2)), (10, .long ((v7 ||| (m_X0_around o_size o_all o_left o_right v7)) &&& p2)), (0, .ref z0), (3, .long p2), (5, .long p3), (9, .int v9)]) hx hb dX0_floodUpTo_53 hl (by decide) rfl (fun ls hl => ?_)
          refine lv_iinc (v := (v9 + (1 : Int32))) (lv' := [(9, .int (v9 + (1 : Int32))), (7, .long ((v7 ||| (m_X0_around o_size o_all o_left o_right v7)) &&& p2)), (10, .long ((v7 ||| (m_X0_around o_size o_all o_left o_right v7)) &&& p2)), (0, .ref z0), (3, .long p2), (5, .long p3)]) hx hb dX0_floodUpTo_55 hl (k := 5) rfl rfl (by decide) rfl (fun ls hl => ?_)
          refine lv_goto (tgt := 8) hx hb dX0_floodUpTo_58 (by decide) ?_
          exact ih ((v7 ||| (m_X0_around o_size o_all o_left o_right v7)) &&& p2) (v9 + (1 : Int32)) hf ls (lv_sub hl [3, 4, 5, 1, 0] rfl)
        · have hf := if_t hf c3
          refine lv_lload hx hb dX0_floodUpTo_48 (lv_at hl 4 rfl) ?_
          exact rRl hc (Option.some.inj hf) dX0_floodUpTo_50
def m_X0_floodUpTo (o_size : Int32) (o_cells : Int32) (o_all : Int64) (o_left : Int64) (o_right : Int64) (p1 : Int64) (p2 : Int64) (p3 : Int64) : Option (Int64) := (m_X0_floodUpTo_c8 o_size o_cells o_all o_left o_right p2 p3 FU (p1 &&& p2) (0 : Int32))
set_option maxHeartbeats 4000000 in
set_option maxRecDepth 100000 in
theorem c_X0_floodUpTo (l : Launch) (D : va_G) (C : Nat → ClassId) (z0 : Nat) (o_size : Int32) (o_cells : Int32) (o_all : Int64) (o_upper : Int64) (o_lower : Int64) (o_left : Int64) (o_right : Int64) (p1 : Int64) (p2 : Int64) (p3 : Int64) (o : Int64) (hf : m_X0_floodUpTo o_size o_cells o_all o_left o_right p1 p2 p3 = some o) : Met l yX0_floodUpTo (wl yX0_floodUpTo cX0_floodUpTo 12 (some .long)) R_X0_floodUpTo (PR [.ref z0, .long p1, .long p2, .long p3] D C [cX0 z0 o_size o_cells o_all o_upper o_lower o_left o_right]) (vp_Sl (fun r => r = o)) 0 0 (fun _ => False) := by
  refine Met_ofC (by decide) ?_
  intro p e s m args below meth c hc hv
  obtain ⟨rfl, hP, hK⟩ := hv
  have hx := hc.1
  have hb := hc.2.1
  have hown := hc.2.2.2.2.1
  have hts := hc.2.2.2.2.2.1
  refine en_F rfl (fun ls hl => ?_)
  have hl : lv_has ls 12 [(0, .ref z0), (1, .long p1), (3, .long p2), (5, .long p3)] := hl
  refine lv_lload_n hx hb dX0_floodUpTo_0 rfl (lv_at hl 1 rfl) ?_
  refine lv_lload_n hx hb dX0_floodUpTo_1 rfl (lv_at hl 2 rfl) ?_
  refine lv_land hx hb dX0_floodUpTo_2 ?_
  refine lv_lstore (lv' := [(7, .long (p1 &&& p2)), (0, .ref z0), (1, .long p1), (3, .long p2), (5, .long p3)]) hx hb dX0_floodUpTo_3 hl (by decide) rfl (fun ls hl => ?_)
  refine lv_iconst (v := (0 : Int32)) hx hb dX0_floodUpTo_5 (by decide) ?_
  refine lv_istore (lv' := [(9, .int (0 : Int32)), (7, .long (p1 &&& p2)), (0, .ref z0), (1, .long p1), (3, .long p2), (5, .long p3)]) hx hb dX0_floodUpTo_6 hl (by decide) rfl (fun ls hl => ?_)
  exact w_X0_floodUpTo_c8 hc hK hP  FU (p1 &&& p2) (0 : Int32) hf ls (lv_sub hl [2, 4, 5, 1, 0] rfl)
abbrev R_X0_flood : Room := { frames := 2, cells := 0, slots := 0, locals := 57 }
def m_X0_flood (o_size : Int32) (o_cells : Int32) (o_all : Int64) (o_left : Int64) (o_right : Int64) (p1 : Int64) (p2 : Int64) : Option (Int64) := ((m_X0_floodUpTo o_size o_cells o_all o_left o_right p1 p2 (0 : Int64)).bind fun u1 => some u1)
set_option maxHeartbeats 4000000 in
set_option maxRecDepth 100000 in
theorem c_X0_flood (l : Launch) (D : va_G) (C : Nat → ClassId) (z0 : Nat) (o_size : Int32) (o_cells : Int32) (o_all : Int64) (o_upper : Int64) (o_lower : Int64) (o_left : Int64) (o_right : Int64) (p1 : Int64) (p2 : Int64) (o : Int64) (hf : m_X0_flood o_size o_cells o_all o_left o_right p1 p2 = some o) : Met l yX0_flood (wl yX0_flood cX0_flood 5 (some .long)) R_X0_flood (PR [.ref z0, .long p1, .long p2] D C [cX0 z0 o_size o_cells o_all o_upper o_lower o_left o_right]) (vp_Sl (fun r => r = o)) 0 0 (fun _ => False) := by
  refine Met_ofC (by decide) ?_
  intro p e s m args below meth c hc hv
  obtain ⟨rfl, hP, hK⟩ := hv
  have hx := hc.1
  have hb := hc.2.1
  have hown := hc.2.2.2.2.1
  have hts := hc.2.2.2.2.2.1
  refine en_F rfl (fun ls hl => ?_)
  have hl : lv_has ls 5 [(0, .ref z0), (1, .long p1), (3, .long p2)] := hl
  refine lv_aload_n hx hb dX0_flood_0 rfl (lv_at hl 0 rfl) ?_
  refine lv_lload_n hx hb dX0_flood_1 rfl (lv_at hl 1 rfl) ?_
  refine lv_lload_n hx hb dX0_flood_2 rfl (lv_at hl 2 rfl) ?_
  refine lv_lconst (v := (0 : Int64)) hx hb dX0_flood_3 (by decide) ?_
  obtain ⟨u1, hu1, hf⟩ := bind_some hf
  refine rcVl (As := [.long p1, .long p2, .long (0 : Int64)]) (rest := []) hc k_X0_34 (c_X0_floodUpTo l D C z0 o_size o_cells o_all o_upper o_lower o_left o_right p1 p2 (0 : Int64)  _ hu1) ⟨rfl, rfl, Nat.le_of_ble_eq_true rfl, Nat.le_of_ble_eq_true rfl⟩ (hP.sub [0] rfl) hK (q0 := 0) rfl rfl rfl hl rfl rfl (Nat.le_of_ble_eq_true rfl) ⟨Nat.zero_le _, Nat.zero_le _⟩ dX0_flood_4 ?_
  exact rRl hc (Option.some.inj hf) dX0_flood_7
abbrev R_X0_linked : Room := { frames := 2, cells := 0, slots := 0, locals := 57 }
def m_X0_linked (o_size : Int32) (o_cells : Int32) (o_all : Int64) (o_left : Int64) (o_right : Int64) (p1 : Int64) (p2 : Int64) (p3 : Int64) : Option (Int32) := ((m_X0_floodUpTo o_size o_cells o_all o_left o_right p2 p1 p3).bind fun u1 => (if (u1 &&& p3) = (0 : Int64) then some (0 : Int32) else some (1 : Int32)))
set_option maxHeartbeats 4000000 in
set_option maxRecDepth 100000 in
theorem c_X0_linked (l : Launch) (D : va_G) (C : Nat → ClassId) (z0 : Nat) (o_size : Int32) (o_cells : Int32) (o_all : Int64) (o_upper : Int64) (o_lower : Int64) (o_left : Int64) (o_right : Int64) (p1 : Int64) (p2 : Int64) (p3 : Int64) (o : Int32) (hf : m_X0_linked o_size o_cells o_all o_left o_right p1 p2 p3 = some o) : Met l yX0_linked (wl yX0_linked cX0_linked 7 (some .boolean)) R_X0_linked (PR [.ref z0, .long p1, .long p2, .long p3] D C [cX0 z0 o_size o_cells o_all o_upper o_lower o_left o_right]) (vp_Si (fun r => r = o)) 0 0 (fun _ => False) := by
  refine Met_ofC (by decide) ?_
  intro p e s m args below meth c hc hv
  obtain ⟨rfl, hP, hK⟩ := hv
  have hx := hc.1
  have hb := hc.2.1
  have hown := hc.2.2.2.2.1
  have hts := hc.2.2.2.2.2.1
  refine en_F rfl (fun ls hl => ?_)
  have hl : lv_has ls 7 [(0, .ref z0), (1, .long p1), (3, .long p2), (5, .long p3)] := hl
  refine lv_aload_n hx hb dX0_linked_0 rfl (lv_at hl 0 rfl) ?_
  refine lv_lload_n hx hb dX0_linked_1 rfl (lv_at hl 2 rfl) ?_
  refine lv_lload_n hx hb dX0_linked_2 rfl (lv_at hl 1 rfl) ?_
  refine lv_lload hx hb dX0_linked_3 (lv_at hl 3 rfl) ?_
  obtain ⟨u1, hu1, hf⟩ := bind_some hf
  refine rcVl (As := [.long p2, .long p1, .long p3]) (rest := []) hc k_X0_34 (c_X0_floodUpTo l D C z0 o_size o_cells o_all o_upper o_lower o_left o_right p2 p1 p3  _ hu1) ⟨rfl, rfl, Nat.le_of_ble_eq_true rfl, Nat.le_of_ble_eq_true rfl⟩ (hP.sub [0] rfl) hK (q0 := 0) rfl rfl rfl hl rfl rfl (Nat.le_of_ble_eq_true rfl) ⟨Nat.zero_le _, Nat.zero_le _⟩ dX0_linked_5 ?_
  refine lv_lload hx hb dX0_linked_8 (lv_at hl 3 rfl) ?_
  refine lv_land hx hb dX0_linked_10 ?_
  refine lv_lconst (v := (0 : Int64)) hx hb dX0_linked_11 (by decide) ?_
  refine lc_eq (tgt := 20) hx hb dX0_linked_12 dX0_linked_13 (by decide) (fun c2 => ?_) (fun c2 => ?_)
  · have hf := if_t hf c2
    refine lv_iconst (v := (0 : Int32)) hx hb dX0_linked_20 (by decide) ?_
    exact rRz hc rfl (Option.some.inj hf) dX0_linked_21
  · have hf := if_f hf c2
    refine lv_iconst (v := (1 : Int32)) hx hb dX0_linked_16 (by decide) ?_
    refine lv_goto (tgt := 21) hx hb dX0_linked_17 (by decide) ?_
    exact rRz hc rfl (Option.some.inj hf) dX0_linked_21
abbrev R_X0_firstEdge : Room := { frames := 0, cells := 0, slots := 0, locals := 0 }
def m_X0_firstEdge (o_upper : Int64) (o_left : Int64) (p1 : Int32) : Int64 := (if p1 = 0 then o_upper else o_left)
set_option maxHeartbeats 4000000 in
set_option maxRecDepth 100000 in
theorem c_X0_firstEdge (l : Launch) (D : va_G) (C : Nat → ClassId) (z0 : Nat) (o_size : Int32) (o_cells : Int32) (o_all : Int64) (o_upper : Int64) (o_lower : Int64) (o_left : Int64) (o_right : Int64) (p1 : Int32) (o : Int64) (hf : m_X0_firstEdge o_upper o_left p1 = o) : Met l yX0_firstEdge (wl yX0_firstEdge cX0_firstEdge 2 (some .long)) R_X0_firstEdge (PR [.ref z0, .int p1] D C [cX0 z0 o_size o_cells o_all o_upper o_lower o_left o_right]) (vp_Sl (fun r => r = o)) 0 0 (fun _ => False) := by
  refine Met_ofC (by decide) ?_
  intro p e s m args below meth c hc hv
  obtain ⟨rfl, hP, hK⟩ := hv
  have hx := hc.1
  have hb := hc.2.1
  have hown := hc.2.2.2.2.1
  have hts := hc.2.2.2.2.2.1
  refine en_F rfl (fun ls hl => ?_)
  have hl : lv_has ls 2 [(0, .ref z0), (1, .int p1)] := hl
  refine lv_iload_n hx hb dX0_firstEdge_0 rfl (lv_at hl 1 rfl) ?_
  refine lv_if_ne (tgt := 11) hx hb dX0_firstEdge_1 (by decide) (fun c1 => ?_) (fun c1 => ?_)
  · have hf := if_f hf c1
    refine lv_aload_n hx hb dX0_firstEdge_11 rfl (lv_at hl 0 rfl) ?_
    refine va_get (D := D) (ci := 0) (v := .long o_left) (C := RX0) (T := TX0) (N := 7) hx hb hts inX0 hown hK hP 0 rfl rfl 5 (by decide) (hts _ q_65) (fun _ h9 => h9) rfl dX0_firstEdge_12 ?_
    exact rRl hc hf dX0_firstEdge_15
  · have hf := if_t hf c1
    refine lv_aload_n hx hb dX0_firstEdge_4 rfl (lv_at hl 0 rfl) ?_
    refine va_get (D := D) (ci := 0) (v := .long o_upper) (C := RX0) (T := TX0) (N := 7) hx hb hts inX0 hown hK hP 0 rfl rfl 3 (by decide) (hts _ q_57) (fun _ h9 => h9) rfl dX0_firstEdge_5 ?_
    refine lv_goto (tgt := 15) hx hb dX0_firstEdge_8 (by decide) ?_
    exact rRl hc hf dX0_firstEdge_15
abbrev R_X0_secondEdge : Room := { frames := 0, cells := 0, slots := 0, locals := 0 }
def m_X0_secondEdge (o_lower : Int64) (o_right : Int64) (p1 : Int32) : Int64 := (if p1 = 0 then o_lower else o_right)
set_option maxHeartbeats 4000000 in
set_option maxRecDepth 100000 in
theorem c_X0_secondEdge (l : Launch) (D : va_G) (C : Nat → ClassId) (z0 : Nat) (o_size : Int32) (o_cells : Int32) (o_all : Int64) (o_upper : Int64) (o_lower : Int64) (o_left : Int64) (o_right : Int64) (p1 : Int32) (o : Int64) (hf : m_X0_secondEdge o_lower o_right p1 = o) : Met l yX0_secondEdge (wl yX0_secondEdge cX0_secondEdge 2 (some .long)) R_X0_secondEdge (PR [.ref z0, .int p1] D C [cX0 z0 o_size o_cells o_all o_upper o_lower o_left o_right]) (vp_Sl (fun r => r = o)) 0 0 (fun _ => False) := by
  refine Met_ofC (by decide) ?_
  intro p e s m args below meth c hc hv
  obtain ⟨rfl, hP, hK⟩ := hv
  have hx := hc.1
  have hb := hc.2.1
  have hown := hc.2.2.2.2.1
  have hts := hc.2.2.2.2.2.1
  refine en_F rfl (fun ls hl => ?_)
  have hl : lv_has ls 2 [(0, .ref z0), (1, .int p1)] := hl
  refine lv_iload_n hx hb dX0_secondEdge_0 rfl (lv_at hl 1 rfl) ?_
  refine lv_if_ne (tgt := 11) hx hb dX0_secondEdge_1 (by decide) (fun c1 => ?_) (fun c1 => ?_)
  · have hf := if_f hf c1
    refine lv_aload_n hx hb dX0_secondEdge_11 rfl (lv_at hl 0 rfl) ?_
    refine va_get (D := D) (ci := 0) (v := .long o_right) (C := RX0) (T := TX0) (N := 7) hx hb hts inX0 hown hK hP 0 rfl rfl 6 (by decide) (hts _ q_67) (fun _ h9 => h9) rfl dX0_secondEdge_12 ?_
    exact rRl hc hf dX0_secondEdge_15
  · have hf := if_t hf c1
    refine lv_aload_n hx hb dX0_secondEdge_4 rfl (lv_at hl 0 rfl) ?_
    refine va_get (D := D) (ci := 0) (v := .long o_lower) (C := RX0) (T := TX0) (N := 7) hx hb hts inX0 hown hK hP 0 rfl rfl 4 (by decide) (hts _ q_61) (fun _ h9 => h9) rfl dX0_secondEdge_5 ?_
    refine lv_goto (tgt := 15) hx hb dX0_secondEdge_8 (by decide) ?_
    exact rRl hc hf dX0_secondEdge_15
abbrev R_X0_cellsOf : Room := { frames := 0, cells := 0, slots := 0, locals := 0 }
def m_X0_cellsOf (o_upper : Int64) (o_lower : Int64) (o_left : Int64) (o_right : Int64) (p1 : Int32) : Int64 := (if p1 = (-4 : Int32) then o_right else (if p1 = (-3 : Int32) then o_left else (if p1 = (-2 : Int32) then o_lower else (if p1 = (-1 : Int32) then o_upper else (jshl (1 : Int64) p1)))))
set_option maxHeartbeats 4000000 in
set_option maxRecDepth 100000 in
theorem c_X0_cellsOf (l : Launch) (D : va_G) (C : Nat → ClassId) (z0 : Nat) (o_size : Int32) (o_cells : Int32) (o_all : Int64) (o_upper : Int64) (o_lower : Int64) (o_left : Int64) (o_right : Int64) (p1 : Int32) (o : Int64) (hf : m_X0_cellsOf o_upper o_lower o_left o_right p1 = o) : Met l yX0_cellsOf (wl yX0_cellsOf cX0_cellsOf 2 (some .long)) R_X0_cellsOf (PR [.ref z0, .int p1] D C [cX0 z0 o_size o_cells o_all o_upper o_lower o_left o_right]) (vp_Sl (fun r => r = o)) 0 0 (fun _ => False) := by
  refine Met_ofC (by decide) ?_
  intro p e s m args below meth c hc hv
  obtain ⟨rfl, hP, hK⟩ := hv
  have hx := hc.1
  have hb := hc.2.1
  have hown := hc.2.2.2.2.1
  have hts := hc.2.2.2.2.2.1
  refine en_F rfl (fun ls hl => ?_)
  have hl : lv_has ls 2 [(0, .ref z0), (1, .int p1)] := hl
  refine lv_iload_n hx hb dX0_cellsOf_0 rfl (lv_at hl 1 rfl) ?_
  by_cases c1 : p1 = (-4 : Int32)
  · have hf := if_t hf c1
    refine lv_tableIn (tgt := 47) hx hb dX0_cellsOf_1 (by rw [c1]; decide) (by rw [c1]; decide) (by rw [c1]; rfl) (by decide) ?_
    refine lv_aload_n hx hb dX0_cellsOf_47 rfl (lv_at hl 0 rfl) ?_
    refine va_get (D := D) (ci := 0) (v := .long o_right) (C := RX0) (T := TX0) (N := 7) hx hb hts inX0 hown hK hP 0 rfl rfl 6 (by decide) (hts _ q_67) (fun _ h9 => h9) rfl dX0_cellsOf_48 ?_
    exact rRl hc hf dX0_cellsOf_51
  · have hf := if_f hf c1
    by_cases c2 : p1 = (-3 : Int32)
    · have hf := if_t hf c2
      refine lv_tableIn (tgt := 42) hx hb dX0_cellsOf_1 (by rw [c2]; decide) (by rw [c2]; decide) (by rw [c2]; rfl) (by decide) ?_
      refine lv_aload_n hx hb dX0_cellsOf_42 rfl (lv_at hl 0 rfl) ?_
      refine va_get (D := D) (ci := 0) (v := .long o_left) (C := RX0) (T := TX0) (N := 7) hx hb hts inX0 hown hK hP 0 rfl rfl 5 (by decide) (hts _ q_65) (fun _ h9 => h9) rfl dX0_cellsOf_43 ?_
      exact rRl hc hf dX0_cellsOf_46
    · have hf := if_f hf c2
      by_cases c3 : p1 = (-2 : Int32)
      · have hf := if_t hf c3
        refine lv_tableIn (tgt := 37) hx hb dX0_cellsOf_1 (by rw [c3]; decide) (by rw [c3]; decide) (by rw [c3]; rfl) (by decide) ?_
        refine lv_aload_n hx hb dX0_cellsOf_37 rfl (lv_at hl 0 rfl) ?_
        refine va_get (D := D) (ci := 0) (v := .long o_lower) (C := RX0) (T := TX0) (N := 7) hx hb hts inX0 hown hK hP 0 rfl rfl 4 (by decide) (hts _ q_61) (fun _ h9 => h9) rfl dX0_cellsOf_38 ?_
        exact rRl hc hf dX0_cellsOf_41
      · have hf := if_f hf c3
        by_cases c4 : p1 = (-1 : Int32)
        · have hf := if_t hf c4
          refine lv_tableIn (tgt := 32) hx hb dX0_cellsOf_1 (by rw [c4]; decide) (by rw [c4]; decide) (by rw [c4]; rfl) (by decide) ?_
          refine lv_aload_n hx hb dX0_cellsOf_32 rfl (lv_at hl 0 rfl) ?_
          refine va_get (D := D) (ci := 0) (v := .long o_upper) (C := RX0) (T := TX0) (N := 7) hx hb hts inX0 hown hK hP 0 rfl rfl 3 (by decide) (hts _ q_57) (fun _ h9 => h9) rfl dX0_cellsOf_33 ?_
          exact rRl hc hf dX0_cellsOf_36
        · have hf := if_f hf c4
          refine lv_tableOut (tgt := 52) hx hb dX0_cellsOf_1 (sw_outn4 c1 c2 c3 c4) (by decide) ?_
          refine lv_lconst (v := (1 : Int64)) hx hb dX0_cellsOf_52 (by decide) ?_
          refine lv_iload_n hx hb dX0_cellsOf_53 rfl (lv_at hl 1 rfl) ?_
          refine lv_lshl (v := (jshl (1 : Int64) p1)) hx hb dX0_cellsOf_54 rfl ?_
          exact rRl hc hf dX0_cellsOf_55
abbrev R_X0_mirrored : Room := { frames := 0, cells := 0, slots := 0, locals := 0 }
def m_X0_mirrored_c60  (k17 : Int64 → Int32 → Int32 → Option (Int64)) (v3 : Int64) (v5 : Int32) (v6 : Int32) : Option (Int64) := (k17 v3 v5 (v6 + (1 : Int32)))
set_option maxHeartbeats 4000000 in
set_option maxRecDepth 100000 in
theorem w_X0_mirrored_c60 {p : Program} {l : Launch} {e : Env} {s : State} {m : MethodId} {args : Array Value} {below : List Frame} {meth : Method} {c : Code} {D : va_G} {C : Nat → ClassId} {z0 : Nat} {o_size : Int32} {o_cells : Int32} {o_all : Int64} {o_upper : Int64} {o_lower : Int64} {o_left : Int64} {o_right : Int64} {p1 : Int64} {o : Int64} (hc : Cx p s m args meth c yX0_mirrored cX0_mirrored 7 (some .long)) (hK : va_K D vwCl (TY C) s) (hP : va_P D vwCl [cX0 z0 o_size o_cells o_all o_upper o_lower o_left o_right] s.heap) (k17 : Int64 → Int32 → Int32 → Option (Int64)) (hk17 : ∀ (v3 : Int64) (v5 : Int32) (v6 : Int32), k17 v3 v5 v6 = some o → ∀ (ls : Array Slot), lv_has ls 7 [(0, .ref z0), (1, .long p1), (3, .long v3), (5, .int v5), (6, .int v6)] → W p l e R_X0_mirrored s m args below meth c s.heap [] 0 0 (MQ below (vp_Sl (fun r => r = o)) args s 0 0 (fun _ => False)) (F0 m 17 ls [])) : ∀ (v3 : Int64) (v5 : Int32) (v6 : Int32), m_X0_mirrored_c60  k17 v3 v5 v6 = some o → ∀ (ls : Array Slot), lv_has ls 7 [(0, .ref z0), (1, .long p1), (3, .long v3), (5, .int v5), (6, .int v6)] → W p l e R_X0_mirrored s m args below meth c s.heap [] 0 0 (MQ below (vp_Sl (fun r => r = o)) args s 0 0 (fun _ => False)) (F0 m 60 ls []) := by
  have hx := hc.1
  have hb := hc.2.1
  have hown := hc.2.2.2.2.1
  have hts := hc.2.2.2.2.2.1
  intro v3 v5 v6 hf ls hl
  refine lv_iinc (v := (v6 + (1 : Int32))) (lv' := [(6, .int (v6 + (1 : Int32))), (0, .ref z0), (1, .long p1), (3, .long v3), (5, .int v5)]) hx hb dX0_mirrored_60 hl (k := 4) rfl rfl (by decide) rfl (fun ls hl => ?_)
  refine lv_goto (tgt := 17) hx hb dX0_mirrored_63 (by decide) ?_
  exact hk17 v3 v5 (v6 + (1 : Int32)) hf ls (lv_sub hl [1, 2, 3, 4, 0] rfl)
def m_X0_mirrored_c17 (o_size : Int32) (p1 : Int64) (k5 : Int64 → Int32 → Option (Int64)) : Nat → Int64 → Int32 → Int32 → Option (Int64)
  | 0, _, _, _ => none
  | n + 1, v3, v5, v6 => (if o_size ≤ v6 then (k5 v3 (v5 + (1 : Int32))) else (if ((jushr p1 ((v5 * o_size) + v6)) &&& (1 : Int64)) = (0 : Int64) then (m_X0_mirrored_c60 (m_X0_mirrored_c17 o_size p1 k5 n) v3 v5 v6) else (m_X0_mirrored_c60 (m_X0_mirrored_c17 o_size p1 k5 n) (v3 ||| (jshl (1 : Int64) ((v6 * o_size) + v5))) v5 v6)))
set_option maxHeartbeats 4000000 in
set_option maxRecDepth 100000 in
theorem w_X0_mirrored_c17 {p : Program} {l : Launch} {e : Env} {s : State} {m : MethodId} {args : Array Value} {below : List Frame} {meth : Method} {c : Code} {D : va_G} {C : Nat → ClassId} {z0 : Nat} {o_size : Int32} {o_cells : Int32} {o_all : Int64} {o_upper : Int64} {o_lower : Int64} {o_left : Int64} {o_right : Int64} {p1 : Int64} {o : Int64} (hc : Cx p s m args meth c yX0_mirrored cX0_mirrored 7 (some .long)) (hK : va_K D vwCl (TY C) s) (hP : va_P D vwCl [cX0 z0 o_size o_cells o_all o_upper o_lower o_left o_right] s.heap) (k5 : Int64 → Int32 → Option (Int64)) (hk5 : ∀ (v3 : Int64) (v5 : Int32), k5 v3 v5 = some o → ∀ (ls : Array Slot), lv_has ls 7 [(0, .ref z0), (1, .long p1), (3, .long v3), (5, .int v5)] → W p l e R_X0_mirrored s m args below meth c s.heap [] 0 0 (MQ below (vp_Sl (fun r => r = o)) args s 0 0 (fun _ => False)) (F0 m 5 ls [])) : ∀ (n : Nat), ∀ (v3 : Int64) (v5 : Int32) (v6 : Int32), m_X0_mirrored_c17 o_size p1 k5 n v3 v5 v6 = some o → ∀ (ls : Array Slot), lv_has ls 7 [(0, .ref z0), (1, .long p1), (3, .long v3), (5, .int v5), (6, .int v6)] → W p l e R_X0_mirrored s m args below meth c s.heap [] 0 0 (MQ below (vp_Sl (fun r => r = o)) args s 0 0 (fun _ => False)) (F0 m 17 ls []) := by
  have hx := hc.1
  have hb := hc.2.1
  have hown := hc.2.2.2.2.1
  have hts := hc.2.2.2.2.2.1
  intro n
  induction n with
  | zero =>
    intro v3 v5 v6 hf
    exact no_some hf
  | succ n ih =>
    intro v3 v5 v6 hf ls hl
    refine lv_iload hx hb dX0_mirrored_17 (lv_at hl 4 rfl) ?_
    refine lv_aload_n hx hb dX0_mirrored_19 rfl (lv_at hl 0 rfl) ?_
    refine va_get (D := D) (ci := 0) (v := .int o_size) (C := RX0) (T := TX0) (N := 7) hx hb hts inX0 hown hK hP 0 rfl rfl 0 (by decide) (hts _ q_50) (fun _ h9 => h9) rfl dX0_mirrored_20 ?_
    refine lv_icmp_ge (tgt := 66) hx hb dX0_mirrored_23 (by decide) (fun c2 => ?_) (fun c2 => ?_)
    · have hf := if_t hf c2
      refine lv_iinc (v := (v5 + (1 : Int32))) (lv' := [(5, .int (v5 + (1 : Int32))), (0, .ref z0), (1, .long p1), (3, .long v3), (6, .int v6)]) hx hb dX0_mirrored_66 hl (k := 3) rfl rfl (by decide) rfl (fun ls hl => ?_)
      refine lv_goto (tgt := 5) hx hb dX0_mirrored_69 (by decide) ?_
      exact hk5 v3 (v5 + (1 : Int32)) hf ls (lv_sub hl [1, 2, 3, 0] rfl)
    · have hf := if_f hf c2
      refine lv_lload_n hx hb dX0_mirrored_26 rfl (lv_at hl 1 rfl) ?_
      refine lv_iload hx hb dX0_mirrored_27 (lv_at hl 3 rfl) ?_
      refine lv_aload_n hx hb dX0_mirrored_29 rfl (lv_at hl 0 rfl) ?_
      refine va_get (D := D) (ci := 0) (v := .int o_size) (C := RX0) (T := TX0) (N := 7) hx hb hts inX0 hown hK hP 0 rfl rfl 0 (by decide) (hts _ q_50) (fun _ h9 => h9) rfl dX0_mirrored_30 ?_
      refine lv_imul hx hb dX0_mirrored_33 ?_
      refine lv_iload hx hb dX0_mirrored_34 (lv_at hl 4 rfl) ?_
      refine lv_iadd hx hb dX0_mirrored_36 ?_
      refine lv_lushr (v := (jushr p1 ((v5 * o_size) + v6))) hx hb dX0_mirrored_37 rfl ?_
      refine lv_lconst (v := (1 : Int64)) hx hb dX0_mirrored_38 (by decide) ?_
      refine lv_land hx hb dX0_mirrored_39 ?_
      refine lv_lconst (v := (0 : Int64)) hx hb dX0_mirrored_40 (by decide) ?_
      refine lc_eq (tgt := 60) hx hb dX0_mirrored_41 dX0_mirrored_42 (by decide) (fun c3 => ?_) (fun c3 => ?_)
      · have hf := if_t hf c3
        exact w_X0_mirrored_c60 hc hK hP (m_X0_mirrored_c17 o_size p1 k5 n) ih v3 v5 v6 hf ls (lv_sub hl [0, 1, 2, 3, 4] rfl)
      · have hf := if_f hf c3
        refine lv_lload_n hx hb dX0_mirrored_45 rfl (lv_at hl 2 rfl) ?_
        refine lv_lconst (v := (1 : Int64)) hx hb dX0_mirrored_46 (by decide) ?_
        refine lv_iload hx hb dX0_mirrored_47 (lv_at hl 4 rfl) ?_
        refine lv_aload_n hx hb dX0_mirrored_49 rfl (lv_at hl 0 rfl) ?_
        refine va_get (D := D) (ci := 0) (v := .int o_size) (C := RX0) (T := TX0) (N := 7) hx hb hts inX0 hown hK hP 0 rfl rfl 0 (by decide) (hts _ q_50) (fun _ h9 => h9) rfl dX0_mirrored_50 ?_
        refine lv_imul hx hb dX0_mirrored_53 ?_
        refine lv_iload hx hb dX0_mirrored_54 (lv_at hl 3 rfl) ?_
        refine lv_iadd hx hb dX0_mirrored_56 ?_
        refine lv_lshl (v := (jshl (1 : Int64) ((v6 * o_size) + v5))) hx hb dX0_mirrored_57 rfl ?_
        refine lv_lor hx hb dX0_mirrored_58 ?_
        refine lv_lstore_n (lv' := [(3, .long (v3 ||| (jshl (1 : Int64) ((v6 * o_size) + v5)))), (0, .ref z0), (1, .long p1), (5, .int v5), (6, .int v6)]) hx hb dX0_mirrored_59 rfl hl (by decide) rfl (fun ls hl => ?_)
        exact w_X0_mirrored_c60 hc hK hP (m_X0_mirrored_c17 o_size p1 k5 n) ih (v3 ||| (jshl (1 : Int64) ((v6 * o_size) + v5))) v5 v6 hf ls (lv_sub hl [1, 2, 0, 3, 4] rfl)
def m_X0_mirrored_c5 (o_size : Int32) (p1 : Int64)  : Nat → Int64 → Int32 → Option (Int64)
  | 0, _, _ => none
  | n + 1, v3, v5 => (if o_size ≤ v5 then some v3 else (m_X0_mirrored_c17 o_size p1 (m_X0_mirrored_c5 o_size p1  n) FU v3 v5 (0 : Int32)))
set_option maxHeartbeats 4000000 in
set_option maxRecDepth 100000 in
theorem w_X0_mirrored_c5 {p : Program} {l : Launch} {e : Env} {s : State} {m : MethodId} {args : Array Value} {below : List Frame} {meth : Method} {c : Code} {D : va_G} {C : Nat → ClassId} {z0 : Nat} {o_size : Int32} {o_cells : Int32} {o_all : Int64} {o_upper : Int64} {o_lower : Int64} {o_left : Int64} {o_right : Int64} {p1 : Int64} {o : Int64} (hc : Cx p s m args meth c yX0_mirrored cX0_mirrored 7 (some .long)) (hK : va_K D vwCl (TY C) s) (hP : va_P D vwCl [cX0 z0 o_size o_cells o_all o_upper o_lower o_left o_right] s.heap) : ∀ (n : Nat), ∀ (v3 : Int64) (v5 : Int32), m_X0_mirrored_c5 o_size p1  n v3 v5 = some o → ∀ (ls : Array Slot), lv_has ls 7 [(0, .ref z0), (1, .long p1), (3, .long v3), (5, .int v5)] → W p l e R_X0_mirrored s m args below meth c s.heap [] 0 0 (MQ below (vp_Sl (fun r => r = o)) args s 0 0 (fun _ => False)) (F0 m 5 ls []) := by
  have hx := hc.1
  have hb := hc.2.1
  have hown := hc.2.2.2.2.1
  have hts := hc.2.2.2.2.2.1
  intro n
  induction n with
  | zero =>
    intro v3 v5 hf
    exact no_some hf
  | succ n ih =>
    intro v3 v5 hf ls hl
    refine lv_iload hx hb dX0_mirrored_5 (lv_at hl 3 rfl) ?_
    refine lv_aload_n hx hb dX0_mirrored_7 rfl (lv_at hl 0 rfl) ?_
    refine va_get (D := D) (ci := 0) (v := .int o_size) (C := RX0) (T := TX0) (N := 7) hx hb hts inX0 hown hK hP 0 rfl rfl 0 (by decide) (hts _ q_50) (fun _ h9 => h9) rfl dX0_mirrored_8 ?_
    refine lv_icmp_ge (tgt := 72) hx hb dX0_mirrored_11 (by decide) (fun c1 => ?_) (fun c1 => ?_)
    · have hf := if_t hf c1
      refine lv_lload_n hx hb dX0_mirrored_72 rfl (lv_at hl 2 rfl) ?_
      exact rRl hc (Option.some.inj hf) dX0_mirrored_73
    · have hf := if_f hf c1
      refine lv_iconst (v := (0 : Int32)) hx hb dX0_mirrored_14 (by decide) ?_
      refine lv_istore (lv' := [(6, .int (0 : Int32)), (0, .ref z0), (1, .long p1), (3, .long v3), (5, .int v5)]) hx hb dX0_mirrored_15 hl (by decide) rfl (fun ls hl => ?_)
      exact w_X0_mirrored_c17 hc hK hP (m_X0_mirrored_c5 o_size p1  n) ih FU v3 v5 (0 : Int32) hf ls (lv_sub hl [1, 2, 3, 4, 0] rfl)
def m_X0_mirrored (o_size : Int32) (p1 : Int64) : Option (Int64) := (m_X0_mirrored_c5 o_size p1 FU (0 : Int64) (0 : Int32))
set_option maxHeartbeats 4000000 in
set_option maxRecDepth 100000 in
theorem c_X0_mirrored (l : Launch) (D : va_G) (C : Nat → ClassId) (z0 : Nat) (o_size : Int32) (o_cells : Int32) (o_all : Int64) (o_upper : Int64) (o_lower : Int64) (o_left : Int64) (o_right : Int64) (p1 : Int64) (o : Int64) (hf : m_X0_mirrored o_size p1 = some o) : Met l yX0_mirrored (wl yX0_mirrored cX0_mirrored 7 (some .long)) R_X0_mirrored (PR [.ref z0, .long p1] D C [cX0 z0 o_size o_cells o_all o_upper o_lower o_left o_right]) (vp_Sl (fun r => r = o)) 0 0 (fun _ => False) := by
  refine Met_ofC (by decide) ?_
  intro p e s m args below meth c hc hv
  obtain ⟨rfl, hP, hK⟩ := hv
  have hx := hc.1
  have hb := hc.2.1
  have hown := hc.2.2.2.2.1
  have hts := hc.2.2.2.2.2.1
  refine en_F rfl (fun ls hl => ?_)
  have hl : lv_has ls 7 [(0, .ref z0), (1, .long p1)] := hl
  refine lv_lconst (v := (0 : Int64)) hx hb dX0_mirrored_0 (by decide) ?_
  refine lv_lstore_n (lv' := [(3, .long (0 : Int64)), (0, .ref z0), (1, .long p1)]) hx hb dX0_mirrored_1 rfl hl (by decide) rfl (fun ls hl => ?_)
  refine lv_iconst (v := (0 : Int32)) hx hb dX0_mirrored_2 (by decide) ?_
  refine lv_istore (lv' := [(5, .int (0 : Int32)), (3, .long (0 : Int64)), (0, .ref z0), (1, .long p1)]) hx hb dX0_mirrored_3 hl (by decide) rfl (fun ls hl => ?_)
  exact w_X0_mirrored_c5 hc hK hP  FU (0 : Int64) (0 : Int32) hf ls (lv_sub hl [2, 3, 1, 0] rfl)

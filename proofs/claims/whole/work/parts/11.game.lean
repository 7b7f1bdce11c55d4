abbrev R_X3_free : Room := { frames := 0, cells := 0, slots := 0, locals := 0 }
def m_X3_free (o_stones0 : Int64) (o_stones1 : Int64) (o_board_all : Int64) : Int64 := ((o_board_all &&& (o_stones0 ^^^ (-1 : Int64))) &&& (o_stones1 ^^^ (-1 : Int64)))
set_option maxHeartbeats 4000000 in
set_option maxRecDepth 100000 in
theorem c_X3_free (l : Launch) (D : va_G) (C : Nat → ClassId) (z0 : Nat) (z1 : Nat) (o_made : Int32) (o_known : Int32) (r_o_list : Nat) (o_stones0 : Int64) (o_stones1 : Int64) (o_board_size : Int32) (o_board_cells : Int32) (o_board_all : Int64) (o_board_upper : Int64) (o_board_lower : Int64) (o_board_left : Int64) (o_board_right : Int64) (o : Int64) (hf : m_X3_free o_stones0 o_stones1 o_board_all = o) : Met l yX3_free (wl yX3_free cX3_free 1 (some .long)) R_X3_free (PR [.ref z0] D C [cX3 z0 z1 o_made o_known r_o_list o_stones0 o_stones1, cX0 z1 o_board_size o_board_cells o_board_all o_board_upper o_board_lower o_board_left o_board_right]) (vp_Sl (fun r => r = o)) 0 0 (fun _ => False) := by
  refine Met_ofC (by decide) ?_
  intro p e s m args below meth c hc hv
  obtain ⟨rfl, hP, hK⟩ := hv
  have hx := hc.1
  have hb := hc.2.1
  have hown := hc.2.2.2.2.1
  have hts := hc.2.2.2.2.2.1
  refine en_F rfl (fun ls hl => ?_)
  have hl : lv_has ls 1 [(0, .ref z0)] := hl
  refine lv_aload_n hx hb dX3_free_0 rfl (lv_at hl 0 rfl) ?_
  refine va_get (D := D) (ci := 3) (v := .ref z1) (C := RX3) (T := TX3) (N := 6) hx hb hts inX3 hown hK hP 0 rfl rfl 0 (by decide) (hts _ q_91) (fun _ h9 => h9) rfl dX3_free_1 ?_
  refine va_get (D := D) (ci := 0) (v := .long o_board_all) (C := RX0) (T := TX0) (N := 7) hx hb hts inX0 hown hK hP 1 rfl rfl 2 (by decide) (hts _ q_55) (fun _ h9 => h9) rfl dX3_free_4 ?_
  refine lv_aload_n hx hb dX3_free_7 rfl (lv_at hl 0 rfl) ?_
  refine va_get (D := D) (ci := 3) (v := .long o_stones0) (C := RX3) (T := TX3) (N := 6) hx hb hts inX3 hown hK hP 0 rfl rfl 4 (by decide) (hts _ q_100) (fun _ h9 => h9) rfl dX3_free_8 ?_
  refine lv_ldc2 (v := (-1 : Int64)) hx hb hown (hts _ q_202) dX3_free_11 ?_
  refine lv_lxor hx hb dX3_free_14 ?_
  refine lv_land hx hb dX3_free_15 ?_
  refine lv_aload_n hx hb dX3_free_16 rfl (lv_at hl 0 rfl) ?_
  refine va_get (D := D) (ci := 3) (v := .long o_stones1) (C := RX3) (T := TX3) (N := 6) hx hb hts inX3 hown hK hP 0 rfl rfl 5 (by decide) (hts _ q_101) (fun _ h9 => h9) rfl dX3_free_17 ?_
  refine lv_ldc2 (v := (-1 : Int64)) hx hb hown (hts _ q_202) dX3_free_20 ?_
  refine lv_lxor hx hb dX3_free_23 ?_
  refine lv_land hx hb dX3_free_24 ?_
  exact rRl hc hf dX3_free_25
abbrev R_X3_stonesOf : Room := { frames := 0, cells := 0, slots := 0, locals := 0 }
def m_X3_stonesOf (o_stones0 : Int64) (o_stones1 : Int64) (p1 : Int32) : Int64 := (if p1 = 0 then o_stones0 else o_stones1)
set_option maxHeartbeats 4000000 in
set_option maxRecDepth 100000 in
theorem c_X3_stonesOf (l : Launch) (D : va_G) (C : Nat → ClassId) (z0 : Nat) (r_o_board : Nat) (o_made : Int32) (o_known : Int32) (r_o_list : Nat) (o_stones0 : Int64) (o_stones1 : Int64) (p1 : Int32) (o : Int64) (hf : m_X3_stonesOf o_stones0 o_stones1 p1 = o) : Met l yX3_stonesOf (wl yX3_stonesOf cX3_stonesOf 2 (some .long)) R_X3_stonesOf (PR [.ref z0, .int p1] D C [cX3 z0 r_o_board o_made o_known r_o_list o_stones0 o_stones1]) (vp_Sl (fun r => r = o)) 0 0 (fun _ => False) := by
  refine Met_ofC (by decide) ?_
  intro p e s m args below meth c hc hv
  obtain ⟨rfl, hP, hK⟩ := hv
  have hx := hc.1
  have hb := hc.2.1
  have hown := hc.2.2.2.2.1
  have hts := hc.2.2.2.2.2.1
  refine en_F rfl (fun ls hl => ?_)
  have hl : lv_has ls 2 [(0, .ref z0), (1, .int p1)] := hl
  refine lv_iload_n hx hb dX3_stonesOf_0 rfl (lv_at hl 1 rfl) ?_
  refine lv_if_ne (tgt := 11) hx hb dX3_stonesOf_1 (by decide) (fun c1 => ?_) (fun c1 => ?_)
  · have hf := if_f hf c1
    refine lv_aload_n hx hb dX3_stonesOf_11 rfl (lv_at hl 0 rfl) ?_
    refine va_get (D := D) (ci := 3) (v := .long o_stones1) (C := RX3) (T := TX3) (N := 6) hx hb hts inX3 hown hK hP 0 rfl rfl 5 (by decide) (hts _ q_101) (fun _ h9 => h9) rfl dX3_stonesOf_12 ?_
    exact rRl hc hf dX3_stonesOf_15
  · have hf := if_t hf c1
    refine lv_aload_n hx hb dX3_stonesOf_4 rfl (lv_at hl 0 rfl) ?_
    refine va_get (D := D) (ci := 3) (v := .long o_stones0) (C := RX3) (T := TX3) (N := 6) hx hb hts inX3 hown hK hP 0 rfl rfl 4 (by decide) (hts _ q_100) (fun _ h9 => h9) rfl dX3_stonesOf_5 ?_
    refine lv_goto (tgt := 15) hx hb dX3_stonesOf_8 (by decide) ?_
    exact rRl hc hf dX3_stonesOf_15
abbrev R_X3_start : Room := { frames := 0, cells := 0, slots := 0, locals := 0 }
def m_X3_start  : Int32 × Int32 × Int64 × Int64 := ((0 : Int32), (0 : Int32), (0 : Int64), (0 : Int64))
set_option maxHeartbeats 4000000 in
set_option maxRecDepth 100000 in
theorem c_X3_start (l : Launch) (D : va_G) (C : Nat → ClassId) (sz : Nat) (a0 : Nat) (a1 : Nat) (r_o_board : Nat) (o_made : Int32) (o_known : Int32) (o_stones0 : Int64) (o_stones1 : Int64) (o_list : Nat → Int32) (p1 : Nat) (o : Int32 × Int32 × Int64 × Int64) (hf : m_X3_start  = o) : Met l yX3_start (wl yX3_start cX3_start 2 none) R_X3_start (PW [.ref a0, .ref p1] D C sz ([cX3 a0 r_o_board o_made o_known a1 o_stones0 o_stones1, aI C a1 50 o_list]) ([] : va_W)) (QWv D ([cX3 a0 p1 o.1 o.2.1 a1 o.2.2.1 o.2.2.2, aI C a1 50 o_list]) (va_A ([cX3 a0 r_o_board o_made o_known a1 o_stones0 o_stones1, aI C a1 50 o_list]) sz)) 0 0 (va_A ([cX3 a0 r_o_board o_made o_known a1 o_stones0 o_stones1, aI C a1 50 o_list]) sz) := by
  refine Met_ofC (by decide) ?_
  intro p e s m args below meth c hc hv
  obtain ⟨rfl, hsz, hP, hK, hD0, hO, hN0⟩ := hv
  subst hsz
  have hD := hD0.self (sz := s.heap.size)
  have hN : ∀ q ∈ ([] : va_W), ¬ va_A ([cX3 a0 r_o_board o_made o_known a1 o_stones0 o_stones1, aI C a1 50 o_list]) s.heap.size q.1 := hN0
  generalize hAe : va_A ([cX3 a0 r_o_board o_made o_known a1 o_stones0 o_stones1, aI C a1 50 o_list]) s.heap.size = A at hD hN ⊢
  have hA : ∀ q : Nat, s.heap.size ≤ q → A q := fun q h => by rw [← hAe]; exact Or.inr h
  have hS : va_S A s.heap s.heap [] := va_S.rf
  have hx := hc.1
  have hb := hc.2.1
  have hown := hc.2.2.2.2.1
  have hts := hc.2.2.2.2.2.1
  refine en_F rfl (fun ls hl => ?_)
  have hl : lv_has ls 2 [(0, .ref a0), (1, .ref p1)] := hl
  refine lv_aload_n hx hb dX3_start_0 rfl (lv_at hl 0 rfl) ?_
  refine lv_aload_n hx hb dX3_start_1 rfl (lv_at hl 1 rfl) ?_
  refine va_put (D := D) (ci := 3) (v := .ref p1) (ty := .object "HexWorkbench$Board") (C := RX3) (T := TX3) (N := 6) hx hb hts inX3 tyX3 tyX3_ok nmX3 hown hK hP hD hS 0 rfl rfl 0 (by decide) (hts _ q_91) (fun _ h9 => h9) rfl (by decide +kernel) rfl rfl (Nat.le_of_ble_eq_true rfl) dX3_start_2 (fun H locs hP hD hS => ?_)
  have hP : va_P D vwCl ([cX3 a0 p1 o_made o_known a1 o_stones0 o_stones1, aI C a1 50 o_list]) H := hP
  have hD : va_D A ([cX3 a0 p1 o_made o_known a1 o_stones0 o_stones1, aI C a1 50 o_list]) := hD
  refine lv_aload_n hx hb dX3_start_5 rfl (lv_at hl 0 rfl) ?_
  refine lv_iconst (v := (0 : Int32)) hx hb dX3_start_6 (by decide) ?_
  refine va_put (D := D) (ci := 3) (v := .int (0 : Int32)) (ty := .int) (C := RX3) (T := TX3) (N := 6) hx hb hts inX3 tyX3 tyX3_ok nmX3 hown hK hP hD hS 0 rfl rfl 1 (by decide) (hts _ q_95) (fun _ h9 => h9) rfl (by decide +kernel) rfl rfl (Nat.le_of_ble_eq_true rfl) dX3_start_7 (fun H locs hP hD hS => ?_)
  have hP : va_P D vwCl ([cX3 a0 p1 (0 : Int32) o_known a1 o_stones0 o_stones1, aI C a1 50 o_list]) H := hP
  have hD : va_D A ([cX3 a0 p1 (0 : Int32) o_known a1 o_stones0 o_stones1, aI C a1 50 o_list]) := hD
  refine lv_aload_n hx hb dX3_start_10 rfl (lv_at hl 0 rfl) ?_
  refine lv_iconst (v := (0 : Int32)) hx hb dX3_start_11 (by decide) ?_
  refine va_put (D := D) (ci := 3) (v := .int (0 : Int32)) (ty := .int) (C := RX3) (T := TX3) (N := 6) hx hb hts inX3 tyX3 tyX3_ok nmX3 hown hK hP hD hS 0 rfl rfl 2 (by decide) (hts _ q_97) (fun _ h9 => h9) rfl (by decide +kernel) rfl rfl (Nat.le_of_ble_eq_true rfl) dX3_start_12 (fun H locs hP hD hS => ?_)
  have hP : va_P D vwCl ([cX3 a0 p1 (0 : Int32) (0 : Int32) a1 o_stones0 o_stones1, aI C a1 50 o_list]) H := hP
  have hD : va_D A ([cX3 a0 p1 (0 : Int32) (0 : Int32) a1 o_stones0 o_stones1, aI C a1 50 o_list]) := hD
  refine lv_aload_n hx hb dX3_start_15 rfl (lv_at hl 0 rfl) ?_
  refine lv_lconst (v := (0 : Int64)) hx hb dX3_start_16 (by decide) ?_
  refine va_put (D := D) (ci := 3) (v := .long (0 : Int64)) (ty := .long) (C := RX3) (T := TX3) (N := 6) hx hb hts inX3 tyX3 tyX3_ok nmX3 hown hK hP hD hS 0 rfl rfl 4 (by decide) (hts _ q_100) (fun _ h9 => h9) rfl (by decide +kernel) rfl rfl (Nat.le_of_ble_eq_true rfl) dX3_start_17 (fun H locs hP hD hS => ?_)
  have hP : va_P D vwCl ([cX3 a0 p1 (0 : Int32) (0 : Int32) a1 (0 : Int64) o_stones1, aI C a1 50 o_list]) H := hP
  have hD : va_D A ([cX3 a0 p1 (0 : Int32) (0 : Int32) a1 (0 : Int64) o_stones1, aI C a1 50 o_list]) := hD
  refine lv_aload_n hx hb dX3_start_20 rfl (lv_at hl 0 rfl) ?_
  refine lv_lconst (v := (0 : Int64)) hx hb dX3_start_21 (by decide) ?_
  refine va_put (D := D) (ci := 3) (v := .long (0 : Int64)) (ty := .long) (C := RX3) (T := TX3) (N := 6) hx hb hts inX3 tyX3 tyX3_ok nmX3 hown hK hP hD hS 0 rfl rfl 5 (by decide) (hts _ q_101) (fun _ h9 => h9) rfl (by decide +kernel) rfl rfl (Nat.le_of_ble_eq_true rfl) dX3_start_22 (fun H locs hP hD hS => ?_)
  have hP : va_P D vwCl ([cX3 a0 p1 (0 : Int32) (0 : Int32) a1 (0 : Int64) (0 : Int64), aI C a1 50 o_list]) H := hP
  have hD : va_D A ([cX3 a0 p1 (0 : Int32) (0 : Int32) a1 (0 : Int64) (0 : Int64), aI C a1 50 o_list]) := hD
  subst hf
  exact rWv hc hP hD hS dX3_start_25
abbrev R_X3_copyFrom : Room := { frames := 0, cells := 0, slots := 0, locals := 0 }
def m_X3_copyFrom_c42 (p1_list : Nat → Int32)  : Nat → Int32 → Int32 → Int32 → Int64 → Int64 → (Nat → Int32) → Option (Int32 × Int32 × Int64 × Int64 × (Nat → Int32))
  | 0, _, _, _, _, _, _ => none
  | n + 1, v2, o_made, o_known, o_stones0, o_stones1, o_list => (if (50 : Int32) ≤ v2 then some (o_made, o_known, o_stones0, o_stones1, o_list) else (if okI v2 50 = true then (if okI v2 50 = true then (m_X3_copyFrom_c42 p1_list  n (v2 + (1 : Int32)) o_made o_known o_stones0 o_stones1 (upd o_list v2.toNatClampNeg (p1_list v2.toNatClampNeg))) else none) else none))
set_option maxHeartbeats 4000000 in
set_option maxRecDepth 100000 in
theorem w_X3_copyFrom_c42 {p : Program} {l : Launch} {e : Env} {s : State} {m : MethodId} {args : Array Value} {below : List Frame} {meth : Method} {c : Code} {D : va_G} {C : Nat → ClassId} {A : Nat → Prop} {a0 : Nat} {a1 : Nat} {z0 : Nat} {z1 : Nat} {r_p1_board : Nat} {p1_made : Int32} {p1_known : Int32} {p1_stones0 : Int64} {p1_stones1 : Int64} {p1_list : Nat → Int32} {o : Int32 × Int32 × Int64 × Int64 × (Nat → Int32)} (hc : Cx p s m args meth c yX3_copyFrom cX3_copyFrom 3 none) (hK : va_K D vwCl (TY C) s) (hA : ∀ q : Nat, s.heap.size ≤ q → A q) (hO : va_P D vwCl [cX3 z0 r_p1_board p1_made p1_known z1 p1_stones0 p1_stones1, aI C z1 50 p1_list] s.heap) (hN : ∀ q ∈ [cX3 z0 r_p1_board p1_made p1_known z1 p1_stones0 p1_stones1, aI C z1 50 p1_list], ¬ A q.1) : ∀ (n : Nat), ∀ (v2 : Int32) (o_made : Int32) (o_known : Int32) (o_stones0 : Int64) (o_stones1 : Int64) (o_list : Nat → Int32), m_X3_copyFrom_c42 p1_list  n v2 o_made o_known o_stones0 o_stones1 o_list = some o → ∀ (H : Heap) (locs : List Loc), va_P D vwCl ([cX3 a0 r_p1_board o_made o_known a1 o_stones0 o_stones1, aI C a1 50 o_list]) H → va_D A ([cX3 a0 r_p1_board o_made o_known a1 o_stones0 o_stones1, aI C a1 50 o_list]) → va_S A s.heap H locs → ∀ (ls : Array Slot), lv_has ls 3 [(0, .ref a0), (1, .ref z0), (2, .int v2)] → W p l e R_X3_copyFrom s m args below meth c H locs 0 0 (MQ below (QWv D ([cX3 a0 r_p1_board o.1 o.2.1 a1 o.2.2.1 o.2.2.2.1, aI C a1 50 o.2.2.2.2]) A) args s 0 0 A) (F0 m 42 ls []) := by
  have hx := hc.1
  have hb := hc.2.1
  have hown := hc.2.2.2.2.1
  have hts := hc.2.2.2.2.2.1
  intro n
  induction n with
  | zero =>
    intro v2 o_made o_known o_stones0 o_stones1 o_list hf
    exact no_some hf
  | succ n ih =>
    intro v2 o_made o_known o_stones0 o_stones1 o_list hf H locs hP hD hS ls hl
    refine lv_iload_n hx hb dX3_copyFrom_42 rfl (lv_at hl 2 rfl) ?_
    refine lv_bipush (v := (50 : Int32)) hx hb dX3_copyFrom_43 (by decide) ?_
    refine lv_icmp_ge (tgt := 66) hx hb dX3_copyFrom_45 (by decide) (fun c1 => ?_) (fun c1 => ?_)
    · have hf := if_t hf c1
      have hf := Option.some.inj hf
      subst hf
      exact rWv hc hP hD hS dX3_copyFrom_66
    · have hf := if_f hf c1
      refine lv_aload_n hx hb dX3_copyFrom_48 rfl (lv_at hl 0 rfl) ?_
      refine va_get (D := D) (ci := 3) (v := .ref a1) (C := RX3) (T := TX3) (N := 6) hx hb hts inX3 hown hK hP 0 rfl rfl 3 (by decide) (hts _ q_99) (fun _ h9 => h9) rfl dX3_copyFrom_49 ?_
      refine lv_iload_n hx hb dX3_copyFrom_52 rfl (lv_at hl 2 rfl) ?_
      refine lv_aload_n hx hb dX3_copyFrom_53 rfl (lv_at hl 1 rfl) ?_
      refine va_get (D := D) (ci := 3) (v := .ref z1) (C := RX3) (T := TX3) (N := 6) hx hb hts inX3 hown hK (ro_S hO hN hS) 0 rfl rfl 3 (by decide) (hts _ q_99) (fun _ h9 => h9) rfl dX3_copyFrom_54 ?_
      refine lv_iload_n hx hb dX3_copyFrom_57 rfl (lv_at hl 2 rfl) ?_
      obtain ⟨h2, hf⟩ := ok_t hf
      refine va_iald hx hb hK (ro_S hO hN hS) 1 0 rfl rfl (okI_in h2) dX3_copyFrom_58 ?_
      obtain ⟨h3, hf⟩ := ok_t hf
      refine va_iast hx hb hK hP hD hS 1 0 rfl rfl (okI_in h3) dX3_copyFrom_59 (fun H locs hP hD hS => ?_)
      have hP : va_P D vwCl ([cX3 a0 r_p1_board o_made o_known a1 o_stones0 o_stones1, aI C a1 50 (upd o_list v2.toNatClampNeg (p1_list v2.toNatClampNeg))]) H := hP
      have hD : va_D A ([cX3 a0 r_p1_board o_made o_known a1 o_stones0 o_stones1, aI C a1 50 (upd o_list v2.toNatClampNeg (p1_list v2.toNatClampNeg))]) := hD
      refine lv_iinc (v := (v2 + (1 : Int32))) (lv' := [(2, .int (v2 + (1 : Int32))), (0, .ref a0), (1, .ref z0)]) hx hb dX3_copyFrom_60 hl (k := 2) rfl rfl (by decide) rfl (fun ls hl => ?_)
      refine lv_goto (tgt := 42) hx hb dX3_copyFrom_63 (by decide) ?_
      exact ih (v2 + (1 : Int32)) o_made o_known o_stones0 o_stones1 (upd o_list v2.toNatClampNeg (p1_list v2.toNatClampNeg)) hf _ _ hP hD hS ls (lv_sub hl [1, 2, 0] rfl)
def m_X3_copyFrom (o_list : Nat → Int32) (p1_made : Int32) (p1_known : Int32) (p1_stones0 : Int64) (p1_stones1 : Int64) (p1_list : Nat → Int32) : Option (Int32 × Int32 × Int64 × Int64 × (Nat → Int32)) := (m_X3_copyFrom_c42 p1_list FU (0 : Int32) p1_made p1_known p1_stones0 p1_stones1 o_list)
set_option maxHeartbeats 4000000 in
set_option maxRecDepth 100000 in
theorem c_X3_copyFrom (l : Launch) (D : va_G) (C : Nat → ClassId) (sz : Nat) (a0 : Nat) (a1 : Nat) (z0 : Nat) (z1 : Nat) (r_o_board : Nat) (o_made : Int32) (o_known : Int32) (o_stones0 : Int64) (o_stones1 : Int64) (o_list : Nat → Int32) (r_p1_board : Nat) (p1_made : Int32) (p1_known : Int32) (p1_stones0 : Int64) (p1_stones1 : Int64) (p1_list : Nat → Int32) (o : Int32 × Int32 × Int64 × Int64 × (Nat → Int32)) (hf : m_X3_copyFrom o_list p1_made p1_known p1_stones0 p1_stones1 p1_list = some o) : Met l yX3_copyFrom (wl yX3_copyFrom cX3_copyFrom 3 none) R_X3_copyFrom (PW [.ref a0, .ref z0] D C sz ([cX3 a0 r_o_board o_made o_known a1 o_stones0 o_stones1, aI C a1 50 o_list]) [cX3 z0 r_p1_board p1_made p1_known z1 p1_stones0 p1_stones1, aI C z1 50 p1_list]) (QWv D ([cX3 a0 r_p1_board o.1 o.2.1 a1 o.2.2.1 o.2.2.2.1, aI C a1 50 o.2.2.2.2]) (va_A ([cX3 a0 r_o_board o_made o_known a1 o_stones0 o_stones1, aI C a1 50 o_list]) sz)) 0 0 (va_A ([cX3 a0 r_o_board o_made o_known a1 o_stones0 o_stones1, aI C a1 50 o_list]) sz) := by
  refine Met_ofC (by decide) ?_
  intro p e s m args below meth c hc hv
  obtain ⟨rfl, hsz, hP, hK, hD0, hO, hN0⟩ := hv
  subst hsz
  have hD := hD0.self (sz := s.heap.size)
  have hN : ∀ q ∈ [cX3 z0 r_p1_board p1_made p1_known z1 p1_stones0 p1_stones1, aI C z1 50 p1_list], ¬ va_A ([cX3 a0 r_o_board o_made o_known a1 o_stones0 o_stones1, aI C a1 50 o_list]) s.heap.size q.1 := hN0
  generalize hAe : va_A ([cX3 a0 r_o_board o_made o_known a1 o_stones0 o_stones1, aI C a1 50 o_list]) s.heap.size = A at hD hN ⊢
  have hA : ∀ q : Nat, s.heap.size ≤ q → A q := fun q h => by rw [← hAe]; exact Or.inr h
  have hS : va_S A s.heap s.heap [] := va_S.rf
  have hx := hc.1
  have hb := hc.2.1
  have hown := hc.2.2.2.2.1
  have hts := hc.2.2.2.2.2.1
  refine en_F rfl (fun ls hl => ?_)
  have hl : lv_has ls 3 [(0, .ref a0), (1, .ref z0)] := hl
  refine lv_aload_n hx hb dX3_copyFrom_0 rfl (lv_at hl 0 rfl) ?_
  refine lv_aload_n hx hb dX3_copyFrom_1 rfl (lv_at hl 1 rfl) ?_
  refine va_get (D := D) (ci := 3) (v := .ref r_p1_board) (C := RX3) (T := TX3) (N := 6) hx hb hts inX3 hown hK (ro_S hO hN hS) 0 rfl rfl 0 (by decide) (hts _ q_91) (fun _ h9 => h9) rfl dX3_copyFrom_2 ?_
  refine va_put (D := D) (ci := 3) (v := .ref r_p1_board) (ty := .object "HexWorkbench$Board") (C := RX3) (T := TX3) (N := 6) hx hb hts inX3 tyX3 tyX3_ok nmX3 hown hK hP hD hS 0 rfl rfl 0 (by decide) (hts _ q_91) (fun _ h9 => h9) rfl (by decide +kernel) rfl rfl (Nat.le_of_ble_eq_true rfl) dX3_copyFrom_5 (fun H locs hP hD hS => ?_)
  have hP : va_P D vwCl ([cX3 a0 r_p1_board o_made o_known a1 o_stones0 o_stones1, aI C a1 50 o_list]) H := hP
  have hD : va_D A ([cX3 a0 r_p1_board o_made o_known a1 o_stones0 o_stones1, aI C a1 50 o_list]) := hD
  refine lv_aload_n hx hb dX3_copyFrom_8 rfl (lv_at hl 0 rfl) ?_
  refine lv_aload_n hx hb dX3_copyFrom_9 rfl (lv_at hl 1 rfl) ?_
  refine va_get (D := D) (ci := 3) (v := .int p1_made) (C := RX3) (T := TX3) (N := 6) hx hb hts inX3 hown hK (ro_S hO hN hS) 0 rfl rfl 1 (by decide) (hts _ q_95) (fun _ h9 => h9) rfl dX3_copyFrom_10 ?_
  refine va_put (D := D) (ci := 3) (v := .int p1_made) (ty := .int) (C := RX3) (T := TX3) (N := 6) hx hb hts inX3 tyX3 tyX3_ok nmX3 hown hK hP hD hS 0 rfl rfl 1 (by decide) (hts _ q_95) (fun _ h9 => h9) rfl (by decide +kernel) rfl rfl (Nat.le_of_ble_eq_true rfl) dX3_copyFrom_13 (fun H locs hP hD hS => ?_)
  have hP : va_P D vwCl ([cX3 a0 r_p1_board p1_made o_known a1 o_stones0 o_stones1, aI C a1 50 o_list]) H := hP
  have hD : va_D A ([cX3 a0 r_p1_board p1_made o_known a1 o_stones0 o_stones1, aI C a1 50 o_list]) := hD
  refine lv_aload_n hx hb dX3_copyFrom_16 rfl (lv_at hl 0 rfl) ?_
  refine lv_aload_n hx hb dX3_copyFrom_17 rfl (lv_at hl 1 rfl) ?_
  refine va_get (D := D) (ci := 3) (v := .int p1_known) (C := RX3) (T := TX3) (N := 6) hx hb hts inX3 hown hK (ro_S hO hN hS) 0 rfl rfl 2 (by decide) (hts _ q_97) (fun _ h9 => h9) rfl dX3_copyFrom_18 ?_
  refine va_put (D := D) (ci := 3) (v := .int p1_known) (ty := .int) (C := RX3) (T := TX3) (N := 6) hx hb hts inX3 tyX3 tyX3_ok nmX3 hown hK hP hD hS 0 rfl rfl 2 (by decide) (hts _ q_97) (fun _ h9 => h9) rfl (by decide +kernel) rfl rfl (Nat.le_of_ble_eq_true rfl) dX3_copyFrom_21 (fun H locs hP hD hS => ?_)
  have hP : va_P D vwCl ([cX3 a0 r_p1_board p1_made p1_known a1 o_stones0 o_stones1, aI C a1 50 o_list]) H := hP
  have hD : va_D A ([cX3 a0 r_p1_board p1_made p1_known a1 o_stones0 o_stones1, aI C a1 50 o_list]) := hD
  refine lv_aload_n hx hb dX3_copyFrom_24 rfl (lv_at hl 0 rfl) ?_
  refine lv_aload_n hx hb dX3_copyFrom_25 rfl (lv_at hl 1 rfl) ?_
  refine va_get (D := D) (ci := 3) (v := .long p1_stones0) (C := RX3) (T := TX3) (N := 6) hx hb hts inX3 hown hK (ro_S hO hN hS) 0 rfl rfl 4 (by decide) (hts _ q_100) (fun _ h9 => h9) rfl dX3_copyFrom_26 ?_
  refine va_put (D := D) (ci := 3) (v := .long p1_stones0) (ty := .long) (C := RX3) (T := TX3) (N := 6) hx hb hts inX3 tyX3 tyX3_ok nmX3 hown hK hP hD hS 0 rfl rfl 4 (by decide) (hts _ q_100) (fun _ h9 => h9) rfl (by decide +kernel) rfl rfl (Nat.le_of_ble_eq_true rfl) dX3_copyFrom_29 (fun H locs hP hD hS => ?_)
  have hP : va_P D vwCl ([cX3 a0 r_p1_board p1_made p1_known a1 p1_stones0 o_stones1, aI C a1 50 o_list]) H := hP
  have hD : va_D A ([cX3 a0 r_p1_board p1_made p1_known a1 p1_stones0 o_stones1, aI C a1 50 o_list]) := hD
  refine lv_aload_n hx hb dX3_copyFrom_32 rfl (lv_at hl 0 rfl) ?_
  refine lv_aload_n hx hb dX3_copyFrom_33 rfl (lv_at hl 1 rfl) ?_
  refine va_get (D := D) (ci := 3) (v := .long p1_stones1) (C := RX3) (T := TX3) (N := 6) hx hb hts inX3 hown hK (ro_S hO hN hS) 0 rfl rfl 5 (by decide) (hts _ q_101) (fun _ h9 => h9) rfl dX3_copyFrom_34 ?_
  refine va_put (D := D) (ci := 3) (v := .long p1_stones1) (ty := .long) (C := RX3) (T := TX3) (N := 6) hx hb hts inX3 tyX3 tyX3_ok nmX3 hown hK hP hD hS 0 rfl rfl 5 (by decide) (hts _ q_101) (fun _ h9 => h9) rfl (by decide +kernel) rfl rfl (Nat.le_of_ble_eq_true rfl) dX3_copyFrom_37 (fun H locs hP hD hS => ?_)
  have hP : va_P D vwCl ([cX3 a0 r_p1_board p1_made p1_known a1 p1_stones0 p1_stones1, aI C a1 50 o_list]) H := hP
  have hD : va_D A ([cX3 a0 r_p1_board p1_made p1_known a1 p1_stones0 p1_stones1, aI C a1 50 o_list]) := hD
  refine lv_iconst (v := (0 : Int32)) hx hb dX3_copyFrom_40 (by decide) ?_
  refine lv_istore_n (lv' := [(2, .int (0 : Int32)), (0, .ref a0), (1, .ref z0)]) hx hb dX3_copyFrom_41 rfl hl (by decide) rfl (fun ls hl => ?_)
  exact w_X3_copyFrom_c42 hc hK hA hO hN  FU (0 : Int32) p1_made p1_known p1_stones0 p1_stones1 o_list hf _ _ hP hD hS ls (lv_sub hl [1, 2, 0] rfl)
abbrev R_X3_moveNumber : Room := { frames := 0, cells := 0, slots := 0, locals := 0 }
def m_X3_moveNumber (o_list : Nat → Int32) (p1 : Int32) : Option (Int32) := (if p1 < 0 then some (-15 : Int32) else (if (50 : Int32) ≤ p1 then some (-15 : Int32) else (if okI p1 50 = true then some (o_list p1.toNatClampNeg) else none)))
set_option maxHeartbeats 4000000 in
set_option maxRecDepth 100000 in
theorem c_X3_moveNumber (l : Launch) (D : va_G) (C : Nat → ClassId) (z0 : Nat) (z1 : Nat) (r_o_board : Nat) (o_made : Int32) (o_known : Int32) (o_stones0 : Int64) (o_stones1 : Int64) (o_list : Nat → Int32) (p1 : Int32) (o : Int32) (hf : m_X3_moveNumber o_list p1 = some o) : Met l yX3_moveNumber (wl yX3_moveNumber cX3_moveNumber 2 (some .int)) R_X3_moveNumber (PR [.ref z0, .int p1] D C [cX3 z0 r_o_board o_made o_known z1 o_stones0 o_stones1, aI C z1 50 o_list]) (vp_Si (fun r => r = o)) 0 0 (fun _ => False) := by
  refine Met_ofC (by decide) ?_
  intro p e s m args below meth c hc hv
  obtain ⟨rfl, hP, hK⟩ := hv
  have hx := hc.1
  have hb := hc.2.1
  have hown := hc.2.2.2.2.1
  have hts := hc.2.2.2.2.2.1
  refine en_F rfl (fun ls hl => ?_)
  have hl : lv_has ls 2 [(0, .ref z0), (1, .int p1)] := hl
  refine lv_iload_n hx hb dX3_moveNumber_0 rfl (lv_at hl 1 rfl) ?_
  refine lv_if_lt (tgt := 19) hx hb dX3_moveNumber_1 (by decide) (fun c1 => ?_) (fun c1 => ?_)
  · have hf := if_t hf c1
    refine lv_bipush (v := (-15 : Int32)) hx hb dX3_moveNumber_19 (by decide) ?_
    exact rRi hc (Option.some.inj hf) dX3_moveNumber_21
  · have hf := if_f hf c1
    refine lv_iload_n hx hb dX3_moveNumber_4 rfl (lv_at hl 1 rfl) ?_
    refine lv_bipush (v := (50 : Int32)) hx hb dX3_moveNumber_5 (by decide) ?_
    refine lv_icmp_ge (tgt := 19) hx hb dX3_moveNumber_7 (by decide) (fun c2 => ?_) (fun c2 => ?_)
    · have hf := if_t hf c2
      refine lv_bipush (v := (-15 : Int32)) hx hb dX3_moveNumber_19 (by decide) ?_
      exact rRi hc (Option.some.inj hf) dX3_moveNumber_21
    · have hf := if_f hf c2
      refine lv_aload_n hx hb dX3_moveNumber_10 rfl (lv_at hl 0 rfl) ?_
      refine va_get (D := D) (ci := 3) (v := .ref z1) (C := RX3) (T := TX3) (N := 6) hx hb hts inX3 hown hK hP 0 rfl rfl 3 (by decide) (hts _ q_99) (fun _ h9 => h9) rfl dX3_moveNumber_11 ?_
      refine lv_iload_n hx hb dX3_moveNumber_14 rfl (lv_at hl 1 rfl) ?_
      obtain ⟨h3, hf⟩ := ok_t hf
      refine va_iald hx hb hK hP 1 0 rfl rfl (okI_in h3) dX3_moveNumber_15 ?_
      refine lv_goto (tgt := 21) hx hb dX3_moveNumber_16 (by decide) ?_
      exact rRi hc (Option.some.inj hf) dX3_moveNumber_21
abbrev R_X3_apply : Room := { frames := 1, cells := 0, slots := 0, locals := 26 }
def m_X3_apply (o_stones0 : Int64) (o_stones1 : Int64) (o_list : Nat → Int32) (o_board_size : Int32) (p1 : Int32) : Option (Int64 × Int64) := ((m_X3_moveNumber o_list p1).bind fun u1 => (if u1 = (-16 : Int32) then ((m_X0_mirrored o_board_size o_stones0).bind fun u4 => some ((0 : Int64), u4)) else (if (jirem p1 (2 : Int32)) = 0 then some ((o_stones0 ||| (jshl (1 : Int64) u1)), o_stones1) else some (o_stones0, (o_stones1 ||| (jshl (1 : Int64) u1))))))
set_option maxHeartbeats 4000000 in
set_option maxRecDepth 100000 in
theorem c_X3_apply (l : Launch) (D : va_G) (C : Nat → ClassId) (sz : Nat) (a0 : Nat) (a1 : Nat) (z0 : Nat) (o_made : Int32) (o_known : Int32) (o_stones0 : Int64) (o_stones1 : Int64) (o_list : Nat → Int32) (o_board_size : Int32) (o_board_cells : Int32) (o_board_all : Int64) (o_board_upper : Int64) (o_board_lower : Int64) (o_board_left : Int64) (o_board_right : Int64) (p1 : Int32) (o : Int64 × Int64) (hf : m_X3_apply o_stones0 o_stones1 o_list o_board_size p1 = some o) : Met l yX3_apply (wl yX3_apply cX3_apply 3 none) R_X3_apply (PW [.ref a0, .int p1] D C sz ([cX3 a0 z0 o_made o_known a1 o_stones0 o_stones1, aI C a1 50 o_list]) [cX0 z0 o_board_size o_board_cells o_board_all o_board_upper o_board_lower o_board_left o_board_right]) (QWv D ([cX3 a0 z0 o_made o_known a1 o.1 o.2, aI C a1 50 o_list]) (va_A ([cX3 a0 z0 o_made o_known a1 o_stones0 o_stones1, aI C a1 50 o_list]) sz)) 0 0 (va_A ([cX3 a0 z0 o_made o_known a1 o_stones0 o_stones1, aI C a1 50 o_list]) sz) := by
  refine Met_ofC (by decide) ?_
  intro p e s m args below meth c hc hv
  obtain ⟨rfl, hsz, hP, hK, hD0, hO, hN0⟩ := hv
  subst hsz
  have hD := hD0.self (sz := s.heap.size)
  have hN : ∀ q ∈ [cX0 z0 o_board_size o_board_cells o_board_all o_board_upper o_board_lower o_board_left o_board_right], ¬ va_A ([cX3 a0 z0 o_made o_known a1 o_stones0 o_stones1, aI C a1 50 o_list]) s.heap.size q.1 := hN0
  generalize hAe : va_A ([cX3 a0 z0 o_made o_known a1 o_stones0 o_stones1, aI C a1 50 o_list]) s.heap.size = A at hD hN ⊢
  have hA : ∀ q : Nat, s.heap.size ≤ q → A q := fun q h => by rw [← hAe]; exact Or.inr h
  have hS : va_S A s.heap s.heap [] := va_S.rf
  have hx := hc.1
  have hb := hc.2.1
  have hown := hc.2.2.2.2.1
  have hts := hc.2.2.2.2.2.1
  refine en_F rfl (fun ls hl => ?_)
  have hl : lv_has ls 3 [(0, .ref a0), (1, .int p1)] := hl
  refine lv_aload_n hx hb dX3_apply_0 rfl (lv_at hl 0 rfl) ?_
  refine lv_iload_n hx hb dX3_apply_1 rfl (lv_at hl 1 rfl) ?_
  obtain ⟨u1, hu1, hf⟩ := bind_some hf
  refine rcVi (As := [.int p1]) (rest := []) hc k_X3_40 (c_X3_moveNumber l D C a0 a1 z0 o_made o_known o_stones0 o_stones1 o_list p1  _ hu1) ⟨rfl, rfl, Nat.le_of_ble_eq_true rfl, Nat.le_of_ble_eq_true rfl⟩ ((hP.app (ro_S hO hN hS)).sub [0, 1] rfl) hK (q0 := 0) rfl rfl rfl hl rfl rfl (Nat.le_of_ble_eq_true rfl) ⟨Nat.zero_le _, Nat.zero_le _⟩ dX3_apply_2 ?_
  refine lv_istore_n (lv' := [(2, .int u1), (0, .ref a0), (1, .int p1)]) hx hb dX3_apply_5 rfl hl (by decide) rfl (fun ls hl => ?_)
  refine lv_iload_n hx hb dX3_apply_6 rfl (lv_at hl 0 rfl) ?_
  refine lv_bipush (v := (-16 : Int32)) hx hb dX3_apply_7 (by decide) ?_
  refine lv_icmp_ne (tgt := 35) hx hb dX3_apply_9 (by decide) (fun c2 => ?_) (fun c2 => ?_)
  · have hf := if_f hf c2
    refine lv_iload_n hx hb dX3_apply_35 rfl (lv_at hl 2 rfl) ?_
    refine lv_iconst (v := (2 : Int32)) hx hb dX3_apply_36 (by decide) ?_
    refine lv_irem hx hb dX3_apply_37 (by decide) ?_
    refine lv_if_ne (tgt := 56) hx hb dX3_apply_38 (by decide) (fun c3 => ?_) (fun c3 => ?_)
    · have hf := if_f hf c3
      refine lv_aload_n hx hb dX3_apply_56 rfl (lv_at hl 1 rfl) ?_
      refine lv_dup hx hb dX3_apply_57 rfl ?_
      refine va_get (D := D) (ci := 3) (v := .long o_stones1) (C := RX3) (T := TX3) (N := 6) hx hb hts inX3 hown hK hP 0 rfl rfl 5 (by decide) (hts _ q_101) (fun _ h9 => h9) rfl dX3_apply_58 ?_
      refine lv_lconst (v := (1 : Int64)) hx hb dX3_apply_61 (by decide) ?_
      refine lv_iload_n hx hb dX3_apply_62 rfl (lv_at hl 0 rfl) ?_
      refine lv_lshl (v := (jshl (1 : Int64) u1)) hx hb dX3_apply_63 rfl ?_
      refine lv_lor hx hb dX3_apply_64 ?_
      refine va_put (D := D) (ci := 3) (v := .long (o_stones1 ||| (jshl (1 : Int64) u1))) (ty := .long) (C := RX3) (T := TX3) (N := 6) hx hb hts inX3 tyX3 tyX3_ok nmX3 hown hK hP hD hS 0 rfl rfl 5 (by decide) (hts _ q_101) (fun _ h9 => h9) rfl (by decide +kernel) rfl rfl (Nat.le_of_ble_eq_true rfl) dX3_apply_65 (fun H locs hP hD hS => ?_)
      have hP : va_P D vwCl ([cX3 a0 z0 o_made o_known a1 o_stones0 (o_stones1 ||| (jshl (1 : Int64) u1)), aI C a1 50 o_list]) H := hP
      have hD : va_D A ([cX3 a0 z0 o_made o_known a1 o_stones0 (o_stones1 ||| (jshl (1 : Int64) u1)), aI C a1 50 o_list]) := hD
      have hf := Option.some.inj hf
      subst hf
      exact rWv hc hP hD hS dX3_apply_68
    · have hf := if_t hf c3
      refine lv_aload_n hx hb dX3_apply_41 rfl (lv_at hl 1 rfl) ?_
      refine lv_dup hx hb dX3_apply_42 rfl ?_
      refine va_get (D := D) (ci := 3) (v := .long o_stones0) (C := RX3) (T := TX3) (N := 6) hx hb hts inX3 hown hK hP 0 rfl rfl 4 (by decide) (hts _ q_100) (fun _ h9 => h9) rfl dX3_apply_43 ?_
      refine lv_lconst (v := (1 : Int64)) hx hb dX3_apply_46 (by decide) ?_
      refine lv_iload_n hx hb dX3_apply_47 rfl (lv_at hl 0 rfl) ?_
      refine lv_lshl (v := (jshl (1 : Int64) u1)) hx hb dX3_apply_48 rfl ?_
      refine lv_lor hx hb dX3_apply_49 ?_
      refine va_put (D := D) (ci := 3) (v := .long (o_stones0 ||| (jshl (1 : Int64) u1))) (ty := .long) (C := RX3) (T := TX3) (N := 6) hx hb hts inX3 tyX3 tyX3_ok nmX3 hown hK hP hD hS 0 rfl rfl 4 (by decide) (hts _ q_100) (fun _ h9 => h9) rfl (by decide +kernel) rfl rfl (Nat.le_of_ble_eq_true rfl) dX3_apply_50 (fun H locs hP hD hS => ?_)
      have hP : va_P D vwCl ([cX3 a0 z0 o_made o_known a1 (o_stones0 ||| (jshl (1 : Int64) u1)) o_stones1, aI C a1 50 o_list]) H := hP
      have hD : va_D A ([cX3 a0 z0 o_made o_known a1 (o_stones0 ||| (jshl (1 : Int64) u1)) o_stones1, aI C a1 50 o_list]) := hD
      refine lv_goto (tgt := 68) hx hb dX3_apply_53 (by decide) ?_
      have hf := Option.some.inj hf
      subst hf
      exact rWv hc hP hD hS dX3_apply_68
  · have hf := if_t hf c2
    refine lv_aload_n hx hb dX3_apply_12 rfl (lv_at hl 1 rfl) ?_
    refine lv_aload_n hx hb dX3_apply_13 rfl (lv_at hl 1 rfl) ?_
    refine va_get (D := D) (ci := 3) (v := .ref z0) (C := RX3) (T := TX3) (N := 6) hx hb hts inX3 hown hK hP 0 rfl rfl 0 (by decide) (hts _ q_91) (fun _ h9 => h9) rfl dX3_apply_14 ?_
    refine lv_aload_n hx hb dX3_apply_17 rfl (lv_at hl 1 rfl) ?_
    refine va_get (D := D) (ci := 3) (v := .long o_stones0) (C := RX3) (T := TX3) (N := 6) hx hb hts inX3 hown hK hP 0 rfl rfl 4 (by decide) (hts _ q_100) (fun _ h9 => h9) rfl dX3_apply_18 ?_
    obtain ⟨u4, hu4, hf⟩ := bind_some hf
    refine rcVl (As := [.long o_stones0]) (rest := [.ref a0]) hc k_X3_44 (c_X0_mirrored l D C z0 o_board_size o_board_cells o_board_all o_board_upper o_board_lower o_board_left o_board_right o_stones0  _ hu4) ⟨rfl, rfl, Nat.le_of_ble_eq_true rfl, Nat.le_of_ble_eq_true rfl⟩ ((hP.app (ro_S hO hN hS)).sub [2] rfl) hK (q0 := 0) rfl rfl rfl hl rfl rfl (Nat.le_of_ble_eq_true rfl) ⟨Nat.zero_le _, Nat.zero_le _⟩ dX3_apply_21 ?_
    refine va_put (D := D) (ci := 3) (v := .long u4) (ty := .long) (C := RX3) (T := TX3) (N := 6) hx hb hts inX3 tyX3 tyX3_ok nmX3 hown hK hP hD hS 0 rfl rfl 5 (by decide) (hts _ q_101) (fun _ h9 => h9) rfl (by decide +kernel) rfl rfl (Nat.le_of_ble_eq_true rfl) dX3_apply_24 (fun H locs hP hD hS => ?_)
    have hP : va_P D vwCl ([cX3 a0 z0 o_made o_known a1 o_stones0 u4, aI C a1 50 o_list]) H := hP
    have hD : va_D A ([cX3 a0 z0 o_made o_known a1 o_stones0 u4, aI C a1 50 o_list]) := hD
    refine lv_aload_n hx hb dX3_apply_27 rfl (lv_at hl 1 rfl) ?_
    refine lv_lconst (v := (0 : Int64)) hx hb dX3_apply_28 (by decide) ?_
    refine va_put (D := D) (ci := 3) (v := .long (0 : Int64)) (ty := .long) (C := RX3) (T := TX3) (N := 6) hx hb hts inX3 tyX3 tyX3_ok nmX3 hown hK hP hD hS 0 rfl rfl 4 (by decide) (hts _ q_100) (fun _ h9 => h9) rfl (by decide +kernel) rfl rfl (Nat.le_of_ble_eq_true rfl) dX3_apply_29 (fun H locs hP hD hS => ?_)
    have hP : va_P D vwCl ([cX3 a0 z0 o_made o_known a1 (0 : Int64) u4, aI C a1 50 o_list]) H := hP
    have hD : va_D A ([cX3 a0 z0 o_made o_known a1 (0 : Int64) u4, aI C a1 50 o_list]) := hD
    refine lv_goto (tgt := 68) hx hb dX3_apply_32 (by decide) ?_
    have hf := Option.some.inj hf
    subst hf
    exact rWv hc hP hD hS dX3_apply_68
abbrev R_X3_redo : Room := { frames := 2, cells := 0, slots := 0, locals := 48 }
def m_X3_redo (o_made : Int32) (o_known : Int32) (o_stones0 : Int64) (o_stones1 : Int64) (o_list : Nat → Int32) (o_board_size : Int32) : Option (Int32 × Int64 × Int64) := (if o_known ≤ o_made then some (o_made, o_stones0, o_stones1) else ((m_X3_apply o_stones0 o_stones1 o_list o_board_size o_made).bind fun u2 => some ((o_made + (1 : Int32)), u2.1, u2.2)))
set_option maxHeartbeats 4000000 in
set_option maxRecDepth 100000 in
theorem c_X3_redo (l : Launch) (D : va_G) (C : Nat → ClassId) (sz : Nat) (a0 : Nat) (a1 : Nat) (z0 : Nat) (o_made : Int32) (o_known : Int32) (o_stones0 : Int64) (o_stones1 : Int64) (o_list : Nat → Int32) (o_board_size : Int32) (o_board_cells : Int32) (o_board_all : Int64) (o_board_upper : Int64) (o_board_lower : Int64) (o_board_left : Int64) (o_board_right : Int64) (o : Int32 × Int64 × Int64) (hf : m_X3_redo o_made o_known o_stones0 o_stones1 o_list o_board_size = some o) : Met l yX3_redo (wl yX3_redo cX3_redo 1 none) R_X3_redo (PW [.ref a0] D C sz ([cX3 a0 z0 o_made o_known a1 o_stones0 o_stones1, aI C a1 50 o_list]) [cX0 z0 o_board_size o_board_cells o_board_all o_board_upper o_board_lower o_board_left o_board_right]) (QWv D ([cX3 a0 z0 o.1 o_known a1 o.2.1 o.2.2, aI C a1 50 o_list]) (va_A ([cX3 a0 z0 o_made o_known a1 o_stones0 o_stones1, aI C a1 50 o_list]) sz)) 0 0 (va_A ([cX3 a0 z0 o_made o_known a1 o_stones0 o_stones1, aI C a1 50 o_list]) sz) := by
  refine Met_ofC (by decide) ?_
  intro p e s m args below meth c hc hv
  obtain ⟨rfl, hsz, hP, hK, hD0, hO, hN0⟩ := hv
  subst hsz
  have hD := hD0.self (sz := s.heap.size)
  have hN : ∀ q ∈ [cX0 z0 o_board_size o_board_cells o_board_all o_board_upper o_board_lower o_board_left o_board_right], ¬ va_A ([cX3 a0 z0 o_made o_known a1 o_stones0 o_stones1, aI C a1 50 o_list]) s.heap.size q.1 := hN0
  generalize hAe : va_A ([cX3 a0 z0 o_made o_known a1 o_stones0 o_stones1, aI C a1 50 o_list]) s.heap.size = A at hD hN ⊢
  have hA : ∀ q : Nat, s.heap.size ≤ q → A q := fun q h => by rw [← hAe]; exact Or.inr h
  have hS : va_S A s.heap s.heap [] := va_S.rf
  have hx := hc.1
  have hb := hc.2.1
  have hown := hc.2.2.2.2.1
  have hts := hc.2.2.2.2.2.1
  refine en_F rfl (fun ls hl => ?_)
  have hl : lv_has ls 1 [(0, .ref a0)] := hl
  refine lv_aload_n hx hb dX3_redo_0 rfl (lv_at hl 0 rfl) ?_
  refine va_get (D := D) (ci := 3) (v := .int o_made) (C := RX3) (T := TX3) (N := 6) hx hb hts inX3 hown hK hP 0 rfl rfl 1 (by decide) (hts _ q_95) (fun _ h9 => h9) rfl dX3_redo_1 ?_
  refine lv_aload_n hx hb dX3_redo_4 rfl (lv_at hl 0 rfl) ?_
  refine va_get (D := D) (ci := 3) (v := .int o_known) (C := RX3) (T := TX3) (N := 6) hx hb hts inX3 hown hK hP 0 rfl rfl 2 (by decide) (hts _ q_97) (fun _ h9 => h9) rfl dX3_redo_5 ?_
  refine lv_icmp_ge (tgt := 29) hx hb dX3_redo_8 (by decide) (fun c1 => ?_) (fun c1 => ?_)
  · have hf := if_t hf c1
    have hf := Option.some.inj hf
    subst hf
    exact rWv hc hP hD hS dX3_redo_29
  · have hf := if_f hf c1
    refine lv_aload_n hx hb dX3_redo_11 rfl (lv_at hl 0 rfl) ?_
    refine lv_aload_n hx hb dX3_redo_12 rfl (lv_at hl 0 rfl) ?_
    refine va_get (D := D) (ci := 3) (v := .int o_made) (C := RX3) (T := TX3) (N := 6) hx hb hts inX3 hown hK hP 0 rfl rfl 1 (by decide) (hts _ q_95) (fun _ h9 => h9) rfl dX3_redo_13 ?_
    obtain ⟨u2, hu2, hf⟩ := bind_some hf
    refine wcVv (A := A) (wc := [cX3 a0 z0 o_made o_known a1 o_stones0 o_stones1, aI C a1 50 o_list]) (w1 := [cX3 a0 z0 o_made o_known a1 u2.1 u2.2, aI C a1 50 o_list]) (rc := [cX0 z0 o_board_size o_board_cells o_board_all o_board_upper o_board_lower o_board_left o_board_right]) (As := [.int o_made]) (rest := []) hc k_X3_36 (c_X3_apply l D C _ a0 a1 z0 o_made o_known o_stones0 o_stones1 o_list o_board_size o_board_cells o_board_all o_board_upper o_board_lower o_board_left o_board_right o_made  _ hu2) ⟨rfl, rfl, Nat.le_of_ble_eq_true rfl, Nat.le_of_ble_eq_true rfl⟩ hP hD hS hA hK [0, 1] [] rfl rfl rfl rfl (by decide) ((hP.app (ro_S hO hN hS)).sub [2] rfl) (Ap_cons (fun h9 => hN _ (List.mem_of_getElem? (i := 0) rfl) (va_free (wc := [cX3 a0 z0 o_made o_known a1 o_stones0 o_stones1, aI C a1 50 o_list]) hD hS hA [0, 1] rfl _ h9)) Ap_nil) (q0 := 0) rfl rfl rfl hl rfl rfl (Nat.le_of_ble_eq_true rfl) ⟨Nat.zero_le _, Nat.zero_le _⟩ dX3_redo_16 (fun H locs hP hD hS => ?_)
    have hP : va_P D vwCl ([cX3 a0 z0 o_made o_known a1 u2.1 u2.2, aI C a1 50 o_list]) H := hP.sub [0, 1] rfl
    have hD : va_D A ([cX3 a0 z0 o_made o_known a1 u2.1 u2.2, aI C a1 50 o_list]) := hD.sub [0, 1] rfl rfl
    refine lv_aload_n hx hb dX3_redo_19 rfl (lv_at hl 0 rfl) ?_
    refine lv_dup hx hb dX3_redo_20 rfl ?_
    refine va_get (D := D) (ci := 3) (v := .int o_made) (C := RX3) (T := TX3) (N := 6) hx hb hts inX3 hown hK hP 0 rfl rfl 1 (by decide) (hts _ q_95) (fun _ h9 => h9) rfl dX3_redo_21 ?_
    refine lv_iconst (v := (1 : Int32)) hx hb dX3_redo_24 (by decide) ?_
    refine lv_iadd hx hb dX3_redo_25 ?_
    refine va_put (D := D) (ci := 3) (v := .int (o_made + (1 : Int32))) (ty := .int) (C := RX3) (T := TX3) (N := 6) hx hb hts inX3 tyX3 tyX3_ok nmX3 hown hK hP hD hS 0 rfl rfl 1 (by decide) (hts _ q_95) (fun _ h9 => h9) rfl (by decide +kernel) rfl rfl (Nat.le_of_ble_eq_true rfl) dX3_redo_26 (fun H locs hP hD hS => ?_)
    have hP : va_P D vwCl ([cX3 a0 z0 (o_made + (1 : Int32)) o_known a1 u2.1 u2.2, aI C a1 50 o_list]) H := hP
    have hD : va_D A ([cX3 a0 z0 (o_made + (1 : Int32)) o_known a1 u2.1 u2.2, aI C a1 50 o_list]) := hD
    have hf := Option.some.inj hf
    subst hf
    exact rWv hc hP hD hS dX3_redo_29
abbrev R_X3_add : Room := { frames := 3, cells := 0, slots := 0, locals := 68 }
def m_X3_add (o_made : Int32) (o_known : Int32) (o_stones0 : Int64) (o_stones1 : Int64) (o_list : Nat → Int32) (o_board_size : Int32) (p1 : Int32) : Option (Int32 × Int32 × Int64 × Int64 × (Nat → Int32)) := (if (50 : Int32) ≤ o_made then some (o_made, o_known, o_stones0, o_stones1, o_list) else (if okI o_made 50 = true then ((m_X3_redo o_made (o_made + (1 : Int32)) o_stones0 o_stones1 (upd o_list o_made.toNatClampNeg p1) o_board_size).bind fun u3 => some (u3.1, (o_made + (1 : Int32)), u3.2.1, u3.2.2, (upd o_list o_made.toNatClampNeg p1))) else none))
set_option maxHeartbeats 4000000 in
set_option maxRecDepth 100000 in
theorem c_X3_add (l : Launch) (D : va_G) (C : Nat → ClassId) (sz : Nat) (a0 : Nat) (a1 : Nat) (z0 : Nat) (o_made : Int32) (o_known : Int32) (o_stones0 : Int64) (o_stones1 : Int64) (o_list : Nat → Int32) (o_board_size : Int32) (o_board_cells : Int32) (o_board_all : Int64) (o_board_upper : Int64) (o_board_lower : Int64) (o_board_left : Int64) (o_board_right : Int64) (p1 : Int32) (o : Int32 × Int32 × Int64 × Int64 × (Nat → Int32)) (hf : m_X3_add o_made o_known o_stones0 o_stones1 o_list o_board_size p1 = some o) : Met l yX3_add (wl yX3_add cX3_add 2 none) R_X3_add (PW [.ref a0, .int p1] D C sz ([cX3 a0 z0 o_made o_known a1 o_stones0 o_stones1, aI C a1 50 o_list]) [cX0 z0 o_board_size o_board_cells o_board_all o_board_upper o_board_lower o_board_left o_board_right]) (QWv D ([cX3 a0 z0 o.1 o.2.1 a1 o.2.2.1 o.2.2.2.1, aI C a1 50 o.2.2.2.2]) (va_A ([cX3 a0 z0 o_made o_known a1 o_stones0 o_stones1, aI C a1 50 o_list]) sz)) 0 0 (va_A ([cX3 a0 z0 o_made o_known a1 o_stones0 o_stones1, aI C a1 50 o_list]) sz) := by
  refine Met_ofC (by decide) ?_
  intro p e s m args below meth c hc hv
  obtain ⟨rfl, hsz, hP, hK, hD0, hO, hN0⟩ := hv
  subst hsz
  have hD := hD0.self (sz := s.heap.size)
  have hN : ∀ q ∈ [cX0 z0 o_board_size o_board_cells o_board_all o_board_upper o_board_lower o_board_left o_board_right], ¬ va_A ([cX3 a0 z0 o_made o_known a1 o_stones0 o_stones1, aI C a1 50 o_list]) s.heap.size q.1 := hN0
  generalize hAe : va_A ([cX3 a0 z0 o_made o_known a1 o_stones0 o_stones1, aI C a1 50 o_list]) s.heap.size = A at hD hN ⊢
  have hA : ∀ q : Nat, s.heap.size ≤ q → A q := fun q h => by rw [← hAe]; exact Or.inr h
  have hS : va_S A s.heap s.heap [] := va_S.rf
  have hx := hc.1
  have hb := hc.2.1
  have hown := hc.2.2.2.2.1
  have hts := hc.2.2.2.2.2.1
  refine en_F rfl (fun ls hl => ?_)
  have hl : lv_has ls 2 [(0, .ref a0), (1, .int p1)] := hl
  refine lv_aload_n hx hb dX3_add_0 rfl (lv_at hl 0 rfl) ?_
  refine va_get (D := D) (ci := 3) (v := .int o_made) (C := RX3) (T := TX3) (N := 6) hx hb hts inX3 hown hK hP 0 rfl rfl 1 (by decide) (hts _ q_95) (fun _ h9 => h9) rfl dX3_add_1 ?_
  refine lv_bipush (v := (50 : Int32)) hx hb dX3_add_4 (by decide) ?_
  refine lv_icmp_ge (tgt := 33) hx hb dX3_add_6 (by decide) (fun c1 => ?_) (fun c1 => ?_)
  · have hf := if_t hf c1
    have hf := Option.some.inj hf
    subst hf
    exact rWv hc hP hD hS dX3_add_33
  · have hf := if_f hf c1
    refine lv_aload_n hx hb dX3_add_9 rfl (lv_at hl 0 rfl) ?_
    refine va_get (D := D) (ci := 3) (v := .ref a1) (C := RX3) (T := TX3) (N := 6) hx hb hts inX3 hown hK hP 0 rfl rfl 3 (by decide) (hts _ q_99) (fun _ h9 => h9) rfl dX3_add_10 ?_
    refine lv_aload_n hx hb dX3_add_13 rfl (lv_at hl 0 rfl) ?_
    refine va_get (D := D) (ci := 3) (v := .int o_made) (C := RX3) (T := TX3) (N := 6) hx hb hts inX3 hown hK hP 0 rfl rfl 1 (by decide) (hts _ q_95) (fun _ h9 => h9) rfl dX3_add_14 ?_
    refine lv_iload_n hx hb dX3_add_17 rfl (lv_at hl 1 rfl) ?_
    obtain ⟨h2, hf⟩ := ok_t hf
    refine va_iast hx hb hK hP hD hS 1 0 rfl rfl (okI_in h2) dX3_add_18 (fun H locs hP hD hS => ?_)
    have hP : va_P D vwCl ([cX3 a0 z0 o_made o_known a1 o_stones0 o_stones1, aI C a1 50 (upd o_list o_made.toNatClampNeg p1)]) H := hP
    have hD : va_D A ([cX3 a0 z0 o_made o_known a1 o_stones0 o_stones1, aI C a1 50 (upd o_list o_made.toNatClampNeg p1)]) := hD
    refine lv_aload_n hx hb dX3_add_19 rfl (lv_at hl 0 rfl) ?_
    refine lv_aload_n hx hb dX3_add_20 rfl (lv_at hl 0 rfl) ?_
    refine va_get (D := D) (ci := 3) (v := .int o_made) (C := RX3) (T := TX3) (N := 6) hx hb hts inX3 hown hK hP 0 rfl rfl 1 (by decide) (hts _ q_95) (fun _ h9 => h9) rfl dX3_add_21 ?_
    refine lv_iconst (v := (1 : Int32)) hx hb dX3_add_24 (by decide) ?_
    refine lv_iadd hx hb dX3_add_25 ?_
    refine va_put (D := D) (ci := 3) (v := .int (o_made + (1 : Int32))) (ty := .int) (C := RX3) (T := TX3) (N := 6) hx hb hts inX3 tyX3 tyX3_ok nmX3 hown hK hP hD hS 0 rfl rfl 2 (by decide) (hts _ q_97) (fun _ h9 => h9) rfl (by decide +kernel) rfl rfl (Nat.le_of_ble_eq_true rfl) dX3_add_26 (fun H locs hP hD hS => ?_)
    have hP : va_P D vwCl ([cX3 a0 z0 o_made (o_made + (1 : Int32)) a1 o_stones0 o_stones1, aI C a1 50 (upd o_list o_made.toNatClampNeg p1)]) H := hP
    have hD : va_D A ([cX3 a0 z0 o_made (o_made + (1 : Int32)) a1 o_stones0 o_stones1, aI C a1 50 (upd o_list o_made.toNatClampNeg p1)]) := hD
    refine lv_aload_n hx hb dX3_add_29 rfl (lv_at hl 0 rfl) ?_
    obtain ⟨u3, hu3, hf⟩ := bind_some hf
    refine wcVv (A := A) (wc := [cX3 a0 z0 o_made (o_made + (1 : Int32)) a1 o_stones0 o_stones1, aI C a1 50 (upd o_list o_made.toNatClampNeg p1)]) (w1 := [cX3 a0 z0 u3.1 (o_made + (1 : Int32)) a1 u3.2.1 u3.2.2, aI C a1 50 (upd o_list o_made.toNatClampNeg p1)]) (rc := [cX0 z0 o_board_size o_board_cells o_board_all o_board_upper o_board_lower o_board_left o_board_right]) (As := []) (rest := []) hc k_X3_33 (c_X3_redo l D C _ a0 a1 z0 o_made (o_made + (1 : Int32)) o_stones0 o_stones1 (upd o_list o_made.toNatClampNeg p1) o_board_size o_board_cells o_board_all o_board_upper o_board_lower o_board_left o_board_right  _ hu3) ⟨rfl, rfl, Nat.le_of_ble_eq_true rfl, Nat.le_of_ble_eq_true rfl⟩ hP hD hS hA hK [0, 1] [] rfl rfl rfl rfl (by decide) ((hP.app (ro_S hO hN hS)).sub [2] rfl) (Ap_cons (fun h9 => hN _ (List.mem_of_getElem? (i := 0) rfl) (va_free (wc := [cX3 a0 z0 o_made (o_made + (1 : Int32)) a1 o_stones0 o_stones1, aI C a1 50 (upd o_list o_made.toNatClampNeg p1)]) hD hS hA [0, 1] rfl _ h9)) Ap_nil) (q0 := 0) rfl rfl rfl hl rfl rfl (Nat.le_of_ble_eq_true rfl) ⟨Nat.zero_le _, Nat.zero_le _⟩ dX3_add_30 (fun H locs hP hD hS => ?_)
    have hP : va_P D vwCl ([cX3 a0 z0 u3.1 (o_made + (1 : Int32)) a1 u3.2.1 u3.2.2, aI C a1 50 (upd o_list o_made.toNatClampNeg p1)]) H := hP.sub [0, 1] rfl
    have hD : va_D A ([cX3 a0 z0 u3.1 (o_made + (1 : Int32)) a1 u3.2.1 u3.2.2, aI C a1 50 (upd o_list o_made.toNatClampNeg p1)]) := hD.sub [0, 1] rfl rfl
    have hf := Option.some.inj hf
    subst hf
    exact rWv hc hP hD hS dX3_add_33
abbrev R_X3_undo : Room := { frames := 3, cells := 0, slots := 0, locals := 68 }
def m_X3_undo_c24 (o_known : Int32) (o_list : Nat → Int32) (o_board_size : Int32)  : Nat → Int32 → Int32 → Int32 → Int64 → Int64 → Option (Int32 × Int64 × Int64)
  | 0, _, _, _, _, _ => none
  | n + 1, v1, v2, o_made, o_stones0, o_stones1 => (if v1 ≤ v2 then some (o_made, o_stones0, o_stones1) else ((m_X3_redo o_made o_known o_stones0 o_stones1 o_list o_board_size).bind fun u2 => (m_X3_undo_c24 o_known o_list o_board_size  n v1 (v2 + (1 : Int32)) u2.1 u2.2.1 u2.2.2)))
set_option maxHeartbeats 4000000 in
set_option maxRecDepth 100000 in
theorem w_X3_undo_c24 {p : Program} {l : Launch} {e : Env} {s : State} {m : MethodId} {args : Array Value} {below : List Frame} {meth : Method} {c : Code} {D : va_G} {C : Nat → ClassId} {A : Nat → Prop} {a0 : Nat} {a1 : Nat} {z0 : Nat} {o_known : Int32} {o_list : Nat → Int32} {o_board_size : Int32} {o_board_cells : Int32} {o_board_all : Int64} {o_board_upper : Int64} {o_board_lower : Int64} {o_board_left : Int64} {o_board_right : Int64} {o : Int32 × Int64 × Int64} (hc : Cx p s m args meth c yX3_undo cX3_undo 3 none) (hK : va_K D vwCl (TY C) s) (hA : ∀ q : Nat, s.heap.size ≤ q → A q) (hO : va_P D vwCl [cX0 z0 o_board_size o_board_cells o_board_all o_board_upper o_board_lower o_board_left o_board_right] s.heap) (hN : ∀ q ∈ [cX0 z0 o_board_size o_board_cells o_board_all o_board_upper o_board_lower o_board_left o_board_right], ¬ A q.1) : ∀ (n : Nat), ∀ (v1 : Int32) (v2 : Int32) (o_made : Int32) (o_stones0 : Int64) (o_stones1 : Int64), m_X3_undo_c24 o_known o_list o_board_size  n v1 v2 o_made o_stones0 o_stones1 = some o → ∀ (H : Heap) (locs : List Loc), va_P D vwCl ([cX3 a0 z0 o_made o_known a1 o_stones0 o_stones1, aI C a1 50 o_list]) H → va_D A ([cX3 a0 z0 o_made o_known a1 o_stones0 o_stones1, aI C a1 50 o_list]) → va_S A s.heap H locs → ∀ (ls : Array Slot), lv_has ls 3 [(0, .ref a0), (1, .int v1), (2, .int v2)] → W p l e R_X3_undo s m args below meth c H locs 0 0 (MQ below (QWv D ([cX3 a0 z0 o.1 o_known a1 o.2.1 o.2.2, aI C a1 50 o_list]) A) args s 0 0 A) (F0 m 24 ls []) := by
  have hx := hc.1
  have hb := hc.2.1
  have hown := hc.2.2.2.2.1
  have hts := hc.2.2.2.2.2.1
  intro n
  induction n with
  | zero =>
    intro v1 v2 o_made o_stones0 o_stones1 hf
    exact no_some hf
  | succ n ih =>
    intro v1 v2 o_made o_stones0 o_stones1 hf H locs hP hD hS ls hl
    refine lv_iload_n hx hb dX3_undo_24 rfl (lv_at hl 2 rfl) ?_
    refine lv_iload_n hx hb dX3_undo_25 rfl (lv_at hl 1 rfl) ?_
    refine lv_icmp_ge (tgt := 39) hx hb dX3_undo_26 (by decide) (fun c1 => ?_) (fun c1 => ?_)
    · have hf := if_t hf c1
      have hf := Option.some.inj hf
      subst hf
      exact rWv hc hP hD hS dX3_undo_39
    · have hf := if_f hf c1
      refine lv_aload_n hx hb dX3_undo_29 rfl (lv_at hl 0 rfl) ?_
      obtain ⟨u2, hu2, hf⟩ := bind_some hf
      refine wcVv (A := A) (wc := [cX3 a0 z0 o_made o_known a1 o_stones0 o_stones1, aI C a1 50 o_list]) (w1 := [cX3 a0 z0 u2.1 o_known a1 u2.2.1 u2.2.2, aI C a1 50 o_list]) (rc := [cX0 z0 o_board_size o_board_cells o_board_all o_board_upper o_board_lower o_board_left o_board_right]) (As := []) (rest := []) hc k_X3_33 (c_X3_redo l D C _ a0 a1 z0 o_made o_known o_stones0 o_stones1 o_list o_board_size o_board_cells o_board_all o_board_upper o_board_lower o_board_left o_board_right  _ hu2) ⟨rfl, rfl, Nat.le_of_ble_eq_true rfl, Nat.le_of_ble_eq_true rfl⟩ hP hD hS hA hK [0, 1] [] rfl rfl rfl rfl (by decide) ((hP.app (ro_S hO hN hS)).sub [2] rfl) (Ap_cons (fun h9 => hN _ (List.mem_of_getElem? (i := 0) rfl) (va_free (wc := [cX3 a0 z0 o_made o_known a1 o_stones0 o_stones1, aI C a1 50 o_list]) hD hS hA [0, 1] rfl _ h9)) Ap_nil) (q0 := 0) rfl rfl rfl hl rfl rfl (Nat.le_of_ble_eq_true rfl) ⟨Nat.zero_le _, Nat.zero_le _⟩ dX3_undo_30 (fun H locs hP hD hS => ?_)
      have hP : va_P D vwCl ([cX3 a0 z0 u2.1 o_known a1 u2.2.1 u2.2.2, aI C a1 50 o_list]) H := hP.sub [0, 1] rfl
      have hD : va_D A ([cX3 a0 z0 u2.1 o_known a1 u2.2.1 u2.2.2, aI C a1 50 o_list]) := hD.sub [0, 1] rfl rfl
      refine lv_iinc (v := (v2 + (1 : Int32))) (lv' := [(2, .int (v2 + (1 : Int32))), (0, .ref a0), (1, .int v1)]) hx hb dX3_undo_33 hl (k := 2) rfl rfl (by decide) rfl (fun ls hl => ?_)
      refine lv_goto (tgt := 24) hx hb dX3_undo_36 (by decide) ?_
      exact ih v1 (v2 + (1 : Int32)) u2.1 u2.2.1 u2.2.2 hf _ _ hP hD hS ls (lv_sub hl [1, 2, 0] rfl)
def m_X3_undo (o_made : Int32) (o_known : Int32) (o_list : Nat → Int32) (o_board_size : Int32) : Option (Int32 × Int64 × Int64) := (m_X3_undo_c24 o_known o_list o_board_size FU (o_made - (1 : Int32)) (0 : Int32) (0 : Int32) (0 : Int64) (0 : Int64))
set_option maxHeartbeats 4000000 in
set_option maxRecDepth 100000 in
theorem c_X3_undo (l : Launch) (D : va_G) (C : Nat → ClassId) (sz : Nat) (a0 : Nat) (a1 : Nat) (z0 : Nat) (o_made : Int32) (o_known : Int32) (o_stones0 : Int64) (o_stones1 : Int64) (o_list : Nat → Int32) (o_board_size : Int32) (o_board_cells : Int32) (o_board_all : Int64) (o_board_upper : Int64) (o_board_lower : Int64) (o_board_left : Int64) (o_board_right : Int64) (o : Int32 × Int64 × Int64) (hf : m_X3_undo o_made o_known o_list o_board_size = some o) : Met l yX3_undo (wl yX3_undo cX3_undo 3 none) R_X3_undo (PW [.ref a0] D C sz ([cX3 a0 z0 o_made o_known a1 o_stones0 o_stones1, aI C a1 50 o_list]) [cX0 z0 o_board_size o_board_cells o_board_all o_board_upper o_board_lower o_board_left o_board_right]) (QWv D ([cX3 a0 z0 o.1 o_known a1 o.2.1 o.2.2, aI C a1 50 o_list]) (va_A ([cX3 a0 z0 o_made o_known a1 o_stones0 o_stones1, aI C a1 50 o_list]) sz)) 0 0 (va_A ([cX3 a0 z0 o_made o_known a1 o_stones0 o_stones1, aI C a1 50 o_list]) sz) := by
  refine Met_ofC (by decide) ?_
  intro p e s m args below meth c hc hv
  obtain ⟨rfl, hsz, hP, hK, hD0, hO, hN0⟩ := hv
  subst hsz
  have hD := hD0.self (sz := s.heap.size)
  have hN : ∀ q ∈ [cX0 z0 o_board_size o_board_cells o_board_all o_board_upper o_board_lower o_board_left o_board_right], ¬ va_A ([cX3 a0 z0 o_made o_known a1 o_stones0 o_stones1, aI C a1 50 o_list]) s.heap.size q.1 := hN0
  generalize hAe : va_A ([cX3 a0 z0 o_made o_known a1 o_stones0 o_stones1, aI C a1 50 o_list]) s.heap.size = A at hD hN ⊢
  have hA : ∀ q : Nat, s.heap.size ≤ q → A q := fun q h => by rw [← hAe]; exact Or.inr h
  have hS : va_S A s.heap s.heap [] := va_S.rf
  have hx := hc.1
  have hb := hc.2.1
  have hown := hc.2.2.2.2.1
  have hts := hc.2.2.2.2.2.1
  refine en_F rfl (fun ls hl => ?_)
  have hl : lv_has ls 3 [(0, .ref a0)] := hl
  refine lv_aload_n hx hb dX3_undo_0 rfl (lv_at hl 0 rfl) ?_
  refine va_get (D := D) (ci := 3) (v := .int o_made) (C := RX3) (T := TX3) (N := 6) hx hb hts inX3 hown hK hP 0 rfl rfl 1 (by decide) (hts _ q_95) (fun _ h9 => h9) rfl dX3_undo_1 ?_
  refine lv_iconst (v := (1 : Int32)) hx hb dX3_undo_4 (by decide) ?_
  refine lv_isub hx hb dX3_undo_5 ?_
  refine lv_istore_n (lv' := [(1, .int (o_made - (1 : Int32))), (0, .ref a0)]) hx hb dX3_undo_6 rfl hl (by decide) rfl (fun ls hl => ?_)
  refine lv_aload_n hx hb dX3_undo_7 rfl (lv_at hl 1 rfl) ?_
  refine lv_lconst (v := (0 : Int64)) hx hb dX3_undo_8 (by decide) ?_
  refine va_put (D := D) (ci := 3) (v := .long (0 : Int64)) (ty := .long) (C := RX3) (T := TX3) (N := 6) hx hb hts inX3 tyX3 tyX3_ok nmX3 hown hK hP hD hS 0 rfl rfl 4 (by decide) (hts _ q_100) (fun _ h9 => h9) rfl (by decide +kernel) rfl rfl (Nat.le_of_ble_eq_true rfl) dX3_undo_9 (fun H locs hP hD hS => ?_)
  have hP : va_P D vwCl ([cX3 a0 z0 o_made o_known a1 (0 : Int64) o_stones1, aI C a1 50 o_list]) H := hP
  have hD : va_D A ([cX3 a0 z0 o_made o_known a1 (0 : Int64) o_stones1, aI C a1 50 o_list]) := hD
  refine lv_aload_n hx hb dX3_undo_12 rfl (lv_at hl 1 rfl) ?_
  refine lv_lconst (v := (0 : Int64)) hx hb dX3_undo_13 (by decide) ?_
  refine va_put (D := D) (ci := 3) (v := .long (0 : Int64)) (ty := .long) (C := RX3) (T := TX3) (N := 6) hx hb hts inX3 tyX3 tyX3_ok nmX3 hown hK hP hD hS 0 rfl rfl 5 (by decide) (hts _ q_101) (fun _ h9 => h9) rfl (by decide +kernel) rfl rfl (Nat.le_of_ble_eq_true rfl) dX3_undo_14 (fun H locs hP hD hS => ?_)
  have hP : va_P D vwCl ([cX3 a0 z0 o_made o_known a1 (0 : Int64) (0 : Int64), aI C a1 50 o_list]) H := hP
  have hD : va_D A ([cX3 a0 z0 o_made o_known a1 (0 : Int64) (0 : Int64), aI C a1 50 o_list]) := hD
  refine lv_aload_n hx hb dX3_undo_17 rfl (lv_at hl 1 rfl) ?_
  refine lv_iconst (v := (0 : Int32)) hx hb dX3_undo_18 (by decide) ?_
  refine va_put (D := D) (ci := 3) (v := .int (0 : Int32)) (ty := .int) (C := RX3) (T := TX3) (N := 6) hx hb hts inX3 tyX3 tyX3_ok nmX3 hown hK hP hD hS 0 rfl rfl 1 (by decide) (hts _ q_95) (fun _ h9 => h9) rfl (by decide +kernel) rfl rfl (Nat.le_of_ble_eq_true rfl) dX3_undo_19 (fun H locs hP hD hS => ?_)
  have hP : va_P D vwCl ([cX3 a0 z0 (0 : Int32) o_known a1 (0 : Int64) (0 : Int64), aI C a1 50 o_list]) H := hP
  have hD : va_D A ([cX3 a0 z0 (0 : Int32) o_known a1 (0 : Int64) (0 : Int64), aI C a1 50 o_list]) := hD
  refine lv_iconst (v := (0 : Int32)) hx hb dX3_undo_22 (by decide) ?_
  refine lv_istore_n (lv' := [(2, .int (0 : Int32)), (1, .int (o_made - (1 : Int32))), (0, .ref a0)]) hx hb dX3_undo_23 rfl hl (by decide) rfl (fun ls hl => ?_)
  exact w_X3_undo_c24 hc hK hA hO hN  FU (o_made - (1 : Int32)) (0 : Int32) (0 : Int32) (0 : Int64) (0 : Int64) hf _ _ hP hD hS ls (lv_sub hl [2, 1, 0] rfl)
abbrev R_X3_latest : Room := { frames := 1, cells := 0, slots := 0, locals := 21 }
def m_X3_latest (o_made : Int32) (o_list : Nat → Int32) : Option (Int32) := ((m_X3_moveNumber o_list (o_made - (1 : Int32))).bind fun u1 => some u1)
set_option maxHeartbeats 4000000 in
set_option maxRecDepth 100000 in
theorem c_X3_latest (l : Launch) (D : va_G) (C : Nat → ClassId) (z0 : Nat) (z1 : Nat) (r_o_board : Nat) (o_made : Int32) (o_known : Int32) (o_stones0 : Int64) (o_stones1 : Int64) (o_list : Nat → Int32) (o : Int32) (hf : m_X3_latest o_made o_list = some o) : Met l yX3_latest (wl yX3_latest cX3_latest 1 (some .int)) R_X3_latest (PR [.ref z0] D C [cX3 z0 r_o_board o_made o_known z1 o_stones0 o_stones1, aI C z1 50 o_list]) (vp_Si (fun r => r = o)) 0 0 (fun _ => False) := by
  refine Met_ofC (by decide) ?_
  intro p e s m args below meth c hc hv
  obtain ⟨rfl, hP, hK⟩ := hv
  have hx := hc.1
  have hb := hc.2.1
  have hown := hc.2.2.2.2.1
  have hts := hc.2.2.2.2.2.1
  refine en_F rfl (fun ls hl => ?_)
  have hl : lv_has ls 1 [(0, .ref z0)] := hl
  refine lv_aload_n hx hb dX3_latest_0 rfl (lv_at hl 0 rfl) ?_
  refine lv_aload_n hx hb dX3_latest_1 rfl (lv_at hl 0 rfl) ?_
  refine va_get (D := D) (ci := 3) (v := .int o_made) (C := RX3) (T := TX3) (N := 6) hx hb hts inX3 hown hK hP 0 rfl rfl 1 (by decide) (hts _ q_95) (fun _ h9 => h9) rfl dX3_latest_2 ?_
  refine lv_iconst (v := (1 : Int32)) hx hb dX3_latest_5 (by decide) ?_
  refine lv_isub hx hb dX3_latest_6 ?_
  obtain ⟨u1, hu1, hf⟩ := bind_some hf
  refine rcVi (As := [.int (o_made - (1 : Int32))]) (rest := []) hc k_X3_40 (c_X3_moveNumber l D C z0 z1 r_o_board o_made o_known o_stones0 o_stones1 o_list (o_made - (1 : Int32))  _ hu1) ⟨rfl, rfl, Nat.le_of_ble_eq_true rfl, Nat.le_of_ble_eq_true rfl⟩ (hP.sub [0, 1] rfl) hK (q0 := 0) rfl rfl rfl hl rfl rfl (Nat.le_of_ble_eq_true rfl) ⟨Nat.zero_le _, Nat.zero_le _⟩ dX3_latest_7 ?_
  exact rRi hc (Option.some.inj hf) dX3_latest_10
abbrev R_X3_mover : Room := { frames := 0, cells := 0, slots := 0, locals := 0 }
def m_X3_mover (o_made : Int32) : Int32 := (jirem o_made (2 : Int32))
set_option maxHeartbeats 4000000 in
set_option maxRecDepth 100000 in
theorem c_X3_mover (l : Launch) (D : va_G) (C : Nat → ClassId) (z0 : Nat) (r_o_board : Nat) (o_made : Int32) (o_known : Int32) (r_o_list : Nat) (o_stones0 : Int64) (o_stones1 : Int64) (o : Int32) (hf : m_X3_mover o_made = o) : Met l yX3_mover (wl yX3_mover cX3_mover 1 (some .int)) R_X3_mover (PR [.ref z0] D C [cX3 z0 r_o_board o_made o_known r_o_list o_stones0 o_stones1]) (vp_Si (fun r => r = o)) 0 0 (fun _ => False) := by
  refine Met_ofC (by decide) ?_
  intro p e s m args below meth c hc hv
  obtain ⟨rfl, hP, hK⟩ := hv
  have hx := hc.1
  have hb := hc.2.1
  have hown := hc.2.2.2.2.1
  have hts := hc.2.2.2.2.2.1
  refine en_F rfl (fun ls hl => ?_)
  have hl : lv_has ls 1 [(0, .ref z0)] := hl
  refine lv_aload_n hx hb dX3_mover_0 rfl (lv_at hl 0 rfl) ?_
  refine va_get (D := D) (ci := 3) (v := .int o_made) (C := RX3) (T := TX3) (N := 6) hx hb hts inX3 hown hK hP 0 rfl rfl 1 (by decide) (hts _ q_95) (fun _ h9 => h9) rfl dX3_mover_1 ?_
  refine lv_iconst (v := (2 : Int32)) hx hb dX3_mover_4 (by decide) ?_
  refine lv_irem hx hb dX3_mover_5 (by decide) ?_
  exact rRi hc hf dX3_mover_6
abbrev R_X3_maySwap : Room := { frames := 0, cells := 0, slots := 0, locals := 0 }
def m_X3_maySwap (o_made : Int32) : Int32 := (if o_made = (1 : Int32) then (1 : Int32) else (0 : Int32))
set_option maxHeartbeats 4000000 in
set_option maxRecDepth 100000 in
theorem c_X3_maySwap (l : Launch) (D : va_G) (C : Nat → ClassId) (z0 : Nat) (r_o_board : Nat) (o_made : Int32) (o_known : Int32) (r_o_list : Nat) (o_stones0 : Int64) (o_stones1 : Int64) (o : Int32) (hf : m_X3_maySwap o_made = o) : Met l yX3_maySwap (wl yX3_maySwap cX3_maySwap 1 (some .boolean)) R_X3_maySwap (PR [.ref z0] D C [cX3 z0 r_o_board o_made o_known r_o_list o_stones0 o_stones1]) (vp_Si (fun r => r = o)) 0 0 (fun _ => False) := by
  refine Met_ofC (by decide) ?_
  intro p e s m args below meth c hc hv
  obtain ⟨rfl, hP, hK⟩ := hv
  have hx := hc.1
  have hb := hc.2.1
  have hown := hc.2.2.2.2.1
  have hts := hc.2.2.2.2.2.1
  refine en_F rfl (fun ls hl => ?_)
  have hl : lv_has ls 1 [(0, .ref z0)] := hl
  refine lv_aload_n hx hb dX3_maySwap_0 rfl (lv_at hl 0 rfl) ?_
  refine va_get (D := D) (ci := 3) (v := .int o_made) (C := RX3) (T := TX3) (N := 6) hx hb hts inX3 hown hK hP 0 rfl rfl 1 (by decide) (hts _ q_95) (fun _ h9 => h9) rfl dX3_maySwap_1 ?_
  refine lv_iconst (v := (1 : Int32)) hx hb dX3_maySwap_4 (by decide) ?_
  refine lv_icmp_ne (tgt := 12) hx hb dX3_maySwap_5 (by decide) (fun c1 => ?_) (fun c1 => ?_)
  · have hf := if_f hf c1
    refine lv_iconst (v := (0 : Int32)) hx hb dX3_maySwap_12 (by decide) ?_
    exact rRz hc rfl hf dX3_maySwap_13
  · have hf := if_t hf c1
    refine lv_iconst (v := (1 : Int32)) hx hb dX3_maySwap_8 (by decide) ?_
    refine lv_goto (tgt := 13) hx hb dX3_maySwap_9 (by decide) ?_
    exact rRz hc rfl hf dX3_maySwap_13
abbrev R_X3_isFree : Room := { frames := 1, cells := 0, slots := 0, locals := 20 }
def m_X3_isFree (o_stones0 : Int64) (o_stones1 : Int64) (o_board_all : Int64) (p1 : Int32) : Int32 := (if ((jushr (m_X3_free o_stones0 o_stones1 o_board_all) p1) &&& (1 : Int64)) = (0 : Int64) then (0 : Int32) else (1 : Int32))
set_option maxHeartbeats 4000000 in
set_option maxRecDepth 100000 in
theorem c_X3_isFree (l : Launch) (D : va_G) (C : Nat → ClassId) (z0 : Nat) (z1 : Nat) (o_made : Int32) (o_known : Int32) (r_o_list : Nat) (o_stones0 : Int64) (o_stones1 : Int64) (o_board_size : Int32) (o_board_cells : Int32) (o_board_all : Int64) (o_board_upper : Int64) (o_board_lower : Int64) (o_board_left : Int64) (o_board_right : Int64) (p1 : Int32) (o : Int32) (hf : m_X3_isFree o_stones0 o_stones1 o_board_all p1 = o) : Met l yX3_isFree (wl yX3_isFree cX3_isFree 2 (some .boolean)) R_X3_isFree (PR [.ref z0, .int p1] D C [cX3 z0 z1 o_made o_known r_o_list o_stones0 o_stones1, cX0 z1 o_board_size o_board_cells o_board_all o_board_upper o_board_lower o_board_left o_board_right]) (vp_Si (fun r => r = o)) 0 0 (fun _ => False) := by
  refine Met_ofC (by decide) ?_
  intro p e s m args below meth c hc hv
  obtain ⟨rfl, hP, hK⟩ := hv
  have hx := hc.1
  have hb := hc.2.1
  have hown := hc.2.2.2.2.1
  have hts := hc.2.2.2.2.2.1
  refine en_F rfl (fun ls hl => ?_)
  have hl : lv_has ls 2 [(0, .ref z0), (1, .int p1)] := hl
  refine lv_aload_n hx hb dX3_isFree_0 rfl (lv_at hl 0 rfl) ?_
  refine rcVl (As := []) (rest := []) hc k_X3_55 (c_X3_free l D C z0 z1 o_made o_known r_o_list o_stones0 o_stones1 o_board_size o_board_cells o_board_all o_board_upper o_board_lower o_board_left o_board_right  _ rfl) ⟨rfl, rfl, Nat.le_of_ble_eq_true rfl, Nat.le_of_ble_eq_true rfl⟩ (hP.sub [0, 1] rfl) hK (q0 := 0) rfl rfl rfl hl rfl rfl (Nat.le_of_ble_eq_true rfl) ⟨Nat.zero_le _, Nat.zero_le _⟩ dX3_isFree_1 ?_
  refine lv_iload_n hx hb dX3_isFree_4 rfl (lv_at hl 1 rfl) ?_
  refine lv_lushr (v := (jushr (m_X3_free o_stones0 o_stones1 o_board_all) p1)) hx hb dX3_isFree_5 rfl ?_
  refine lv_lconst (v := (1 : Int64)) hx hb dX3_isFree_6 (by decide) ?_
  refine lv_land hx hb dX3_isFree_7 ?_
  refine lv_lconst (v := (0 : Int64)) hx hb dX3_isFree_8 (by decide) ?_
  refine lc_eq (tgt := 17) hx hb dX3_isFree_9 dX3_isFree_10 (by decide) (fun c1 => ?_) (fun c1 => ?_)
  · have hf := if_t hf c1
    refine lv_iconst (v := (0 : Int32)) hx hb dX3_isFree_17 (by decide) ?_
    exact rRz hc rfl hf dX3_isFree_18
  · have hf := if_f hf c1
    refine lv_iconst (v := (1 : Int32)) hx hb dX3_isFree_13 (by decide) ?_
    refine lv_goto (tgt := 18) hx hb dX3_isFree_14 (by decide) ?_
    exact rRz hc rfl hf dX3_isFree_18
abbrev R_X3_victor : Room := { frames := 3, cells := 0, slots := 0, locals := 83 }
def m_X3_victor (o_stones0 : Int64) (o_stones1 : Int64) (o_board_size : Int32) (o_board_cells : Int32) (o_board_all : Int64) (o_board_upper : Int64) (o_board_lower : Int64) (o_board_left : Int64) (o_board_right : Int64) : Option (Int32) := ((m_X0_linked o_board_size o_board_cells o_board_all o_board_left o_board_right o_stones0 o_board_upper o_board_lower).bind fun u1 => (if u1 = 0 then ((m_X0_linked o_board_size o_board_cells o_board_all o_board_left o_board_right o_stones1 o_board_left o_board_right).bind fun u3 => (if u3 = 0 then some (-15 : Int32) else some (1 : Int32))) else some (0 : Int32)))
set_option maxHeartbeats 4000000 in
set_option maxRecDepth 100000 in
theorem c_X3_victor (l : Launch) (D : va_G) (C : Nat → ClassId) (z0 : Nat) (z1 : Nat) (o_made : Int32) (o_known : Int32) (r_o_list : Nat) (o_stones0 : Int64) (o_stones1 : Int64) (o_board_size : Int32) (o_board_cells : Int32) (o_board_all : Int64) (o_board_upper : Int64) (o_board_lower : Int64) (o_board_left : Int64) (o_board_right : Int64) (o : Int32) (hf : m_X3_victor o_stones0 o_stones1 o_board_size o_board_cells o_board_all o_board_upper o_board_lower o_board_left o_board_right = some o) : Met l yX3_victor (wl yX3_victor cX3_victor 1 (some .int)) R_X3_victor (PR [.ref z0] D C [cX3 z0 z1 o_made o_known r_o_list o_stones0 o_stones1, cX0 z1 o_board_size o_board_cells o_board_all o_board_upper o_board_lower o_board_left o_board_right]) (vp_Si (fun r => r = o)) 0 0 (fun _ => False) := by
  refine Met_ofC (by decide) ?_
  intro p e s m args below meth c hc hv
  obtain ⟨rfl, hP, hK⟩ := hv
  have hx := hc.1
  have hb := hc.2.1
  have hown := hc.2.2.2.2.1
  have hts := hc.2.2.2.2.2.1
  refine en_F rfl (fun ls hl => ?_)
  have hl : lv_has ls 1 [(0, .ref z0)] := hl
  refine lv_aload_n hx hb dX3_victor_0 rfl (lv_at hl 0 rfl) ?_
  refine va_get (D := D) (ci := 3) (v := .ref z1) (C := RX3) (T := TX3) (N := 6) hx hb hts inX3 hown hK hP 0 rfl rfl 0 (by decide) (hts _ q_91) (fun _ h9 => h9) rfl dX3_victor_1 ?_
  refine lv_aload_n hx hb dX3_victor_4 rfl (lv_at hl 0 rfl) ?_
  refine va_get (D := D) (ci := 3) (v := .long o_stones0) (C := RX3) (T := TX3) (N := 6) hx hb hts inX3 hown hK hP 0 rfl rfl 4 (by decide) (hts _ q_100) (fun _ h9 => h9) rfl dX3_victor_5 ?_
  refine lv_aload_n hx hb dX3_victor_8 rfl (lv_at hl 0 rfl) ?_
  refine va_get (D := D) (ci := 3) (v := .ref z1) (C := RX3) (T := TX3) (N := 6) hx hb hts inX3 hown hK hP 0 rfl rfl 0 (by decide) (hts _ q_91) (fun _ h9 => h9) rfl dX3_victor_9 ?_
  refine va_get (D := D) (ci := 0) (v := .long o_board_upper) (C := RX0) (T := TX0) (N := 7) hx hb hts inX0 hown hK hP 1 rfl rfl 3 (by decide) (hts _ q_59) (fun _ h9 => h9) rfl dX3_victor_12 ?_
  refine lv_aload_n hx hb dX3_victor_15 rfl (lv_at hl 0 rfl) ?_
  refine va_get (D := D) (ci := 3) (v := .ref z1) (C := RX3) (T := TX3) (N := 6) hx hb hts inX3 hown hK hP 0 rfl rfl 0 (by decide) (hts _ q_91) (fun _ h9 => h9) rfl dX3_victor_16 ?_
  refine va_get (D := D) (ci := 0) (v := .long o_board_lower) (C := RX0) (T := TX0) (N := 7) hx hb hts inX0 hown hK hP 1 rfl rfl 4 (by decide) (hts _ q_63) (fun _ h9 => h9) rfl dX3_victor_19 ?_
  obtain ⟨u1, hu1, hf⟩ := bind_some hf
  refine rcVi (As := [.long o_stones0, .long o_board_upper, .long o_board_lower]) (rest := []) hc k_X3_65 (c_X0_linked l D C z1 o_board_size o_board_cells o_board_all o_board_upper o_board_lower o_board_left o_board_right o_stones0 o_board_upper o_board_lower  _ hu1) ⟨rfl, rfl, Nat.le_of_ble_eq_true rfl, Nat.le_of_ble_eq_true rfl⟩ (hP.sub [1] rfl) hK (q0 := 0) rfl rfl rfl hl rfl rfl (Nat.le_of_ble_eq_true rfl) ⟨Nat.zero_le _, Nat.zero_le _⟩ dX3_victor_22 ?_
  refine lv_if_eq (tgt := 30) hx hb dX3_victor_25 (by decide) (fun c2 => ?_) (fun c2 => ?_)
  · have hf := if_t hf c2
    refine lv_aload_n hx hb dX3_victor_30 rfl (lv_at hl 0 rfl) ?_
    refine va_get (D := D) (ci := 3) (v := .ref z1) (C := RX3) (T := TX3) (N := 6) hx hb hts inX3 hown hK hP 0 rfl rfl 0 (by decide) (hts _ q_91) (fun _ h9 => h9) rfl dX3_victor_31 ?_
    refine lv_aload_n hx hb dX3_victor_34 rfl (lv_at hl 0 rfl) ?_
    refine va_get (D := D) (ci := 3) (v := .long o_stones1) (C := RX3) (T := TX3) (N := 6) hx hb hts inX3 hown hK hP 0 rfl rfl 5 (by decide) (hts _ q_101) (fun _ h9 => h9) rfl dX3_victor_35 ?_
    refine lv_aload_n hx hb dX3_victor_38 rfl (lv_at hl 0 rfl) ?_
    refine va_get (D := D) (ci := 3) (v := .ref z1) (C := RX3) (T := TX3) (N := 6) hx hb hts inX3 hown hK hP 0 rfl rfl 0 (by decide) (hts _ q_91) (fun _ h9 => h9) rfl dX3_victor_39 ?_
    refine va_get (D := D) (ci := 0) (v := .long o_board_left) (C := RX0) (T := TX0) (N := 7) hx hb hts inX0 hown hK hP 1 rfl rfl 5 (by decide) (hts _ q_66) (fun _ h9 => h9) rfl dX3_victor_42 ?_
    refine lv_aload_n hx hb dX3_victor_45 rfl (lv_at hl 0 rfl) ?_
    refine va_get (D := D) (ci := 3) (v := .ref z1) (C := RX3) (T := TX3) (N := 6) hx hb hts inX3 hown hK hP 0 rfl rfl 0 (by decide) (hts _ q_91) (fun _ h9 => h9) rfl dX3_victor_46 ?_
    refine va_get (D := D) (ci := 0) (v := .long o_board_right) (C := RX0) (T := TX0) (N := 7) hx hb hts inX0 hown hK hP 1 rfl rfl 6 (by decide) (hts _ q_68) (fun _ h9 => h9) rfl dX3_victor_49 ?_
    obtain ⟨u3, hu3, hf⟩ := bind_some hf
    refine rcVi (As := [.long o_stones1, .long o_board_left, .long o_board_right]) (rest := []) hc k_X3_65 (c_X0_linked l D C z1 o_board_size o_board_cells o_board_all o_board_upper o_board_lower o_board_left o_board_right o_stones1 o_board_left o_board_right  _ hu3) ⟨rfl, rfl, Nat.le_of_ble_eq_true rfl, Nat.le_of_ble_eq_true rfl⟩ (hP.sub [1] rfl) hK (q0 := 0) rfl rfl rfl hl rfl rfl (Nat.le_of_ble_eq_true rfl) ⟨Nat.zero_le _, Nat.zero_le _⟩ dX3_victor_52 ?_
    refine lv_if_eq (tgt := 62) hx hb dX3_victor_55 (by decide) (fun c4 => ?_) (fun c4 => ?_)
    · have hf := if_t hf c4
      refine lv_bipush (v := (-15 : Int32)) hx hb dX3_victor_62 (by decide) ?_
      exact rRi hc (Option.some.inj hf) dX3_victor_64
    · have hf := if_f hf c4
      refine lv_iconst (v := (1 : Int32)) hx hb dX3_victor_58 (by decide) ?_
      refine lv_goto (tgt := 64) hx hb dX3_victor_59 (by decide) ?_
      exact rRi hc (Option.some.inj hf) dX3_victor_64
  · have hf := if_f hf c2
    refine lv_iconst (v := (0 : Int32)) hx hb dX3_victor_28 (by decide) ?_
    exact rRi hc (Option.some.inj hf) dX3_victor_29

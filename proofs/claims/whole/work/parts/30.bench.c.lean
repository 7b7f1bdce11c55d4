abbrev R_X5_duration : Room := { frames := 35, cells := 0, slots := 0, locals := 1674 }
def m_X5_duration (z0 : Nat) (o_game_made : Int32) (o_game_stones0 : Int64) (o_game_stones1 : Int64) (r_o_contest_board : Nat) (o_contest_from : Int64) (o_contest_to : Int64) (o_contest_spots : Nat → Int64) (o_contest_memo : Nat → Int64) (o_game_board_size : Int32) (o_game_board_cells : Int32) (o_game_board_all : Int64) (o_game_board_upper : Int64) (o_game_board_lower : Int64) (o_game_board_left : Int64) (o_game_board_right : Int64) : Option (Int32 × Nat × Int64 × Int64 × (Nat → Int64) × (Nat → Int64)) := (if (m_X5_hasFreeAtMost o_game_stones0 o_game_stones1 o_game_board_all (9 : Int32)) = 0 then some ((-13 : Int32), r_o_contest_board, o_contest_from, o_contest_to, o_contest_spots, o_contest_memo) else ((m_X5_outcomeOfGame o_game_made o_game_stones0 o_game_stones1 o_contest_spots o_contest_memo o_game_board_size o_game_board_cells o_game_board_all o_game_board_upper o_game_board_lower o_game_board_left o_game_board_right).bind fun u2 => some ((m_X1_length u2.1), z0, u2.2.1, u2.2.2.1, u2.2.2.2.1, u2.2.2.2.2)))
set_option maxHeartbeats 4000000 in
set_option maxRecDepth 100000 in
theorem c_X5_duration (l : Launch) (D : va_G) (C : Nat → ClassId) (tp : Nat) (sz : Nat) (a0 : Nat) (a1 : Nat) (a2 : Nat) (a3 : Nat) (a4 : Nat) (a5 : Nat) (a6 : Nat) (a7 : Nat) (a8 : Nat) (a9 : Nat) (a10 : Nat) (a11 : Nat) (a12 : Nat) (a13 : Nat) (a14 : Nat) (a15 : Nat) (a16 : Nat) (z0 : Nat) (o_threatCount : Int32) (o_textLength : Int32) (o_game_made : Int32) (o_game_known : Int32) (o_game_stones0 : Int64) (o_game_stones1 : Int64) (o_game_list : Nat → Int32) (r_o_trial_board : Nat) (o_trial_made : Int32) (o_trial_known : Int32) (o_trial_stones0 : Int64) (o_trial_stones1 : Int64) (o_trial_list : Nat → Int32) (o_slots : Nat → Option Nat) (o_paths_layers : Nat → Int64) (o_table_count : Int32) (o_table_wins : Nat → Int64) (r_o_contest_board : Nat) (o_contest_from : Int64) (o_contest_to : Int64) (o_contest_spots : Nat → Int64) (o_contest_memo : Nat → Int64) (o_foundBridges : Nat → Int32) (o_threatPlayers : Nat → Int32) (o_threatRegions : Nat → Int64) (o_text : Nat → Int32) (o_game_board_size : Int32) (o_game_board_cells : Int32) (o_game_board_all : Int64) (o_game_board_upper : Int64) (o_game_board_lower : Int64) (o_game_board_left : Int64) (o_game_board_right : Int64) (o : Int32 × Nat × Int64 × Int64 × (Nat → Int64) × (Nat → Int64)) (hf : m_X5_duration z0 o_game_made o_game_stones0 o_game_stones1 r_o_contest_board o_contest_from o_contest_to o_contest_spots o_contest_memo o_game_board_size o_game_board_cells o_game_board_all o_game_board_upper o_game_board_lower o_game_board_left o_game_board_right = some o) : Met l yX5_duration (wl yX5_duration cX5_duration 1 (some .int)) R_X5_duration (PWX [.ref a0] D C tp sz (wX5 C a0 a1 a2 a3 a4 a5 a6 a7 a8 a9 a10 a11 a12 a13 a14 a15 a16 o_threatCount o_textLength z0 o_game_made o_game_known o_game_stones0 o_game_stones1 o_game_list r_o_trial_board o_trial_made o_trial_known o_trial_stones0 o_trial_stones1 o_trial_list o_slots o_paths_layers o_table_count o_table_wins r_o_contest_board o_contest_from o_contest_to o_contest_spots o_contest_memo o_foundBridges o_threatPlayers o_threatRegions o_text) [cX0 z0 o_game_board_size o_game_board_cells o_game_board_all o_game_board_upper o_game_board_lower o_game_board_left o_game_board_right]) (QWi D o.1 (wX5 C a0 a1 a2 a3 a4 a5 a6 a7 a8 a9 a10 a11 a12 a13 a14 a15 a16 o_threatCount o_textLength z0 o_game_made o_game_known o_game_stones0 o_game_stones1 o_game_list r_o_trial_board o_trial_made o_trial_known o_trial_stones0 o_trial_stones1 o_trial_list o_slots o_paths_layers o_table_count o_table_wins o.2.1 o.2.2.1 o.2.2.2.1 o.2.2.2.2.1 o.2.2.2.2.2 o_foundBridges o_threatPlayers o_threatRegions o_text) (va_A (wX5 C a0 a1 a2 a3 a4 a5 a6 a7 a8 a9 a10 a11 a12 a13 a14 a15 a16 o_threatCount o_textLength z0 o_game_made o_game_known o_game_stones0 o_game_stones1 o_game_list r_o_trial_board o_trial_made o_trial_known o_trial_stones0 o_trial_stones1 o_trial_list o_slots o_paths_layers o_table_count o_table_wins r_o_contest_board o_contest_from o_contest_to o_contest_spots o_contest_memo o_foundBridges o_threatPlayers o_threatRegions o_text) sz)) 0 0 (va_A (wX5 C a0 a1 a2 a3 a4 a5 a6 a7 a8 a9 a10 a11 a12 a13 a14 a15 a16 o_threatCount o_textLength z0 o_game_made o_game_known o_game_stones0 o_game_stones1 o_game_list r_o_trial_board o_trial_made o_trial_known o_trial_stones0 o_trial_stones1 o_trial_list o_slots o_paths_layers o_table_count o_table_wins r_o_contest_board o_contest_from o_contest_to o_contest_spots o_contest_memo o_foundBridges o_threatPlayers o_threatRegions o_text) sz) := by
  refine Met_ofC (by decide) ?_
  intro p e s m args below meth c hc hv
  obtain ⟨rfl, hsz, hP, hK, hD0, hO, hN0, hT0⟩ := hv
  subst hsz
  have hT : Xt tp (va_A (wX5 C a0 a1 a2 a3 a4 a5 a6 a7 a8 a9 a10 a11 a12 a13 a14 a15 a16 o_threatCount o_textLength z0 o_game_made o_game_known o_game_stones0 o_game_stones1 o_game_list r_o_trial_board o_trial_made o_trial_known o_trial_stones0 o_trial_stones1 o_trial_list o_slots o_paths_layers o_table_count o_table_wins r_o_contest_board o_contest_from o_contest_to o_contest_spots o_contest_memo o_foundBridges o_threatPlayers o_threatRegions o_text) s.heap.size) s s.heap := hT0
  have hD := hD0.self (sz := s.heap.size)
  have hN : ∀ q ∈ [cX0 z0 o_game_board_size o_game_board_cells o_game_board_all o_game_board_upper o_game_board_lower o_game_board_left o_game_board_right], ¬ va_A (wX5 C a0 a1 a2 a3 a4 a5 a6 a7 a8 a9 a10 a11 a12 a13 a14 a15 a16 o_threatCount o_textLength z0 o_game_made o_game_known o_game_stones0 o_game_stones1 o_game_list r_o_trial_board o_trial_made o_trial_known o_trial_stones0 o_trial_stones1 o_trial_list o_slots o_paths_layers o_table_count o_table_wins r_o_contest_board o_contest_from o_contest_to o_contest_spots o_contest_memo o_foundBridges o_threatPlayers o_threatRegions o_text) s.heap.size q.1 := hN0
  generalize hAe : va_A (wX5 C a0 a1 a2 a3 a4 a5 a6 a7 a8 a9 a10 a11 a12 a13 a14 a15 a16 o_threatCount o_textLength z0 o_game_made o_game_known o_game_stones0 o_game_stones1 o_game_list r_o_trial_board o_trial_made o_trial_known o_trial_stones0 o_trial_stones1 o_trial_list o_slots o_paths_layers o_table_count o_table_wins r_o_contest_board o_contest_from o_contest_to o_contest_spots o_contest_memo o_foundBridges o_threatPlayers o_threatRegions o_text) s.heap.size = A at hD hN hT ⊢
  have hA : ∀ q : Nat, s.heap.size ≤ q → A q := fun q h => by rw [← hAe]; exact Or.inr h
  have hS : va_S A s.heap s.heap [] := va_S.rf
  have hx := hc.1
  have hb := hc.2.1
  have hown := hc.2.2.2.2.1
  have hts := hc.2.2.2.2.2.1
  refine en_F rfl (fun ls hl => ?_)
  have hl : lv_has ls 1 [(0, .ref a0)] := hl
  refine lv_aload_n hx hb dX5_duration_0 rfl (lv_at hl 0 rfl) ?_
  refine lv_bipush (v := (9 : Int32)) hx hb dX5_duration_1 (by decide) ?_
  refine rcVi (As := [.int (9 : Int32)]) (rest := []) hc k_X5_165 (c_X5_hasFreeAtMost l D C a0 a1 z0 a3 a5 a6 a8 a10 a13 a14 a15 o_threatCount a16 o_textLength o_game_made o_game_known a2 o_game_stones0 o_game_stones1 o_game_board_size o_game_board_cells o_game_board_all o_game_board_upper o_game_board_lower o_game_board_left o_game_board_right (9 : Int32)  _ rfl) ⟨rfl, rfl, Nat.le_of_ble_eq_true rfl, Nat.le_of_ble_eq_true rfl⟩ ((hP.app (ro_S hO hN hS)).sub [0, 1, 17] rfl) hK (q0 := 0) rfl rfl rfl hl rfl rfl (Nat.le_of_ble_eq_true rfl) ⟨Nat.zero_le _, Nat.zero_le _⟩ dX5_duration_3 ?_
  refine lv_if_ne (tgt := 12) hx hb dX5_duration_6 (by decide) (fun c1 => ?_) (fun c1 => ?_)
  · have hf := if_f hf c1
    refine lv_aload_n hx hb dX5_duration_12 rfl (lv_at hl 0 rfl) ?_
    obtain ⟨u2, hu2, hf⟩ := bind_some hf
    refine wcViX (A := A) (wc := wX5 C a0 a1 a2 a3 a4 a5 a6 a7 a8 a9 a10 a11 a12 a13 a14 a15 a16 o_threatCount o_textLength z0 o_game_made o_game_known o_game_stones0 o_game_stones1 o_game_list r_o_trial_board o_trial_made o_trial_known o_trial_stones0 o_trial_stones1 o_trial_list o_slots o_paths_layers o_table_count o_table_wins r_o_contest_board o_contest_from o_contest_to o_contest_spots o_contest_memo o_foundBridges o_threatPlayers o_threatRegions o_text) (w1 := wX5 C a0 a1 a2 a3 a4 a5 a6 a7 a8 a9 a10 a11 a12 a13 a14 a15 a16 o_threatCount o_textLength z0 o_game_made o_game_known o_game_stones0 o_game_stones1 o_game_list r_o_trial_board o_trial_made o_trial_known o_trial_stones0 o_trial_stones1 o_trial_list o_slots o_paths_layers o_table_count o_table_wins z0 u2.2.1 u2.2.2.1 u2.2.2.2.1 u2.2.2.2.2 o_foundBridges o_threatPlayers o_threatRegions o_text) (rc := [cX0 z0 o_game_board_size o_game_board_cells o_game_board_all o_game_board_upper o_game_board_lower o_game_board_left o_game_board_right]) (As := []) (rest := []) hc k_X5_187 (c_X5_outcomeOfGame l D C tp _ a0 a1 a2 a3 a4 a5 a6 a7 a8 a9 a10 a11 a12 a13 a14 a15 a16 z0 o_threatCount o_textLength o_game_made o_game_known o_game_stones0 o_game_stones1 o_game_list r_o_trial_board o_trial_made o_trial_known o_trial_stones0 o_trial_stones1 o_trial_list o_slots o_paths_layers o_table_count o_table_wins r_o_contest_board o_contest_from o_contest_to o_contest_spots o_contest_memo o_foundBridges o_threatPlayers o_threatRegions o_text o_game_board_size o_game_board_cells o_game_board_all o_game_board_upper o_game_board_lower o_game_board_left o_game_board_right  _ hu2) ⟨rfl, rfl, Nat.le_of_ble_eq_true rfl, Nat.le_of_ble_eq_true rfl⟩ hP hD hS hA hK [0, 1, 2, 3, 4, 5, 6, 7, 8, 9, 10, 11, 12, 13, 14, 15, 16] [] rfl rfl rfl rfl (by decide) ((hP.app (ro_S hO hN hS)).sub [17] rfl) (Ap_cons (fun h9 => hN _ (List.mem_of_getElem? (i := 0) rfl) (va_free (wc := wX5 C a0 a1 a2 a3 a4 a5 a6 a7 a8 a9 a10 a11 a12 a13 a14 a15 a16 o_threatCount o_textLength z0 o_game_made o_game_known o_game_stones0 o_game_stones1 o_game_list r_o_trial_board o_trial_made o_trial_known o_trial_stones0 o_trial_stones1 o_trial_list o_slots o_paths_layers o_table_count o_table_wins r_o_contest_board o_contest_from o_contest_to o_contest_spots o_contest_memo o_foundBridges o_threatPlayers o_threatRegions o_text) hD hS hA [0, 1, 2, 3, 4, 5, 6, 7, 8, 9, 10, 11, 12, 13, 14, 15, 16] rfl _ h9)) Ap_nil) hT (q0 := 0) rfl rfl rfl hl rfl rfl (Nat.le_of_ble_eq_true rfl) ⟨Nat.zero_le _, Nat.zero_le _⟩ dX5_duration_13 (fun H locs hP hD hS => ?_)
    have hP : va_P D vwCl (wX5 C a0 a1 a2 a3 a4 a5 a6 a7 a8 a9 a10 a11 a12 a13 a14 a15 a16 o_threatCount o_textLength z0 o_game_made o_game_known o_game_stones0 o_game_stones1 o_game_list r_o_trial_board o_trial_made o_trial_known o_trial_stones0 o_trial_stones1 o_trial_list o_slots o_paths_layers o_table_count o_table_wins z0 u2.2.1 u2.2.2.1 u2.2.2.2.1 u2.2.2.2.2 o_foundBridges o_threatPlayers o_threatRegions o_text) H := hP.sub [0, 1, 2, 3, 4, 5, 6, 7, 8, 9, 10, 11, 12, 13, 14, 15, 16] rfl
    have hD : va_D A (wX5 C a0 a1 a2 a3 a4 a5 a6 a7 a8 a9 a10 a11 a12 a13 a14 a15 a16 o_threatCount o_textLength z0 o_game_made o_game_known o_game_stones0 o_game_stones1 o_game_list r_o_trial_board o_trial_made o_trial_known o_trial_stones0 o_trial_stones1 o_trial_list o_slots o_paths_layers o_table_count o_table_wins z0 u2.2.1 u2.2.2.1 u2.2.2.2.1 u2.2.2.2.2 o_foundBridges o_threatPlayers o_threatRegions o_text) := hD.sub [0, 1, 2, 3, 4, 5, 6, 7, 8, 9, 10, 11, 12, 13, 14, 15, 16] rfl rfl
    refine rcSi (As := [.int u2.1]) (rest := []) hc k_X5_208 (c_X1_length l D C u2.1  _ rfl) ⟨rfl, rfl, Nat.le_of_ble_eq_true rfl, Nat.le_of_ble_eq_true rfl⟩ (hP.sub [] rfl) hK hl rfl rfl (Nat.le_of_ble_eq_true rfl) ⟨Nat.zero_le _, Nat.zero_le _⟩ dX5_duration_16 ?_
    have hf := Option.some.inj hf
    subst hf
    exact rWi hc rfl hP hD hS dX5_duration_19
  · have hf := if_t hf c1
    refine lv_bipush (v := (-13 : Int32)) hx hb dX5_duration_9 (by decide) ?_
    have hf := Option.some.inj hf
    subst hf
    exact rWi hc rfl hP hD hS dX5_duration_11
abbrev R_X5_isPlace : Room := { frames := 0, cells := 0, slots := 0, locals := 0 }
def m_X5_isPlace (o_game_board_cells : Int32) (p1 : Int32) : Int32 := (if p1 < (-4 : Int32) then (0 : Int32) else (if o_game_board_cells ≤ p1 then (0 : Int32) else (1 : Int32)))
set_option maxHeartbeats 4000000 in
set_option maxRecDepth 100000 in
theorem c_X5_isPlace (l : Launch) (D : va_G) (C : Nat → ClassId) (z0 : Nat) (z1 : Nat) (z2 : Nat) (r_o_trial : Nat) (r_o_slots : Nat) (r_o_paths : Nat) (r_o_table : Nat) (r_o_contest : Nat) (r_o_foundBridges : Nat) (r_o_threatPlayers : Nat) (r_o_threatRegions : Nat) (o_threatCount : Int32) (r_o_text : Nat) (o_textLength : Int32) (o_game_made : Int32) (o_game_known : Int32) (r_o_game_list : Nat) (o_game_stones0 : Int64) (o_game_stones1 : Int64) (o_game_board_size : Int32) (o_game_board_cells : Int32) (o_game_board_all : Int64) (o_game_board_upper : Int64) (o_game_board_lower : Int64) (o_game_board_left : Int64) (o_game_board_right : Int64) (p1 : Int32) (o : Int32) (hf : m_X5_isPlace o_game_board_cells p1 = o) : Met l yX5_isPlace (wl yX5_isPlace cX5_isPlace 2 (some .boolean)) R_X5_isPlace (PR [.ref z0, .int p1] D C [cX5 z0 z1 r_o_trial r_o_slots r_o_paths r_o_table r_o_contest r_o_foundBridges r_o_threatPlayers r_o_threatRegions o_threatCount r_o_text o_textLength, cX3 z1 z2 o_game_made o_game_known r_o_game_list o_game_stones0 o_game_stones1, cX0 z2 o_game_board_size o_game_board_cells o_game_board_all o_game_board_upper o_game_board_lower o_game_board_left o_game_board_right]) (vp_Si (fun r => r = o)) 0 0 (fun _ => False) := by
  refine Met_ofC (by decide) ?_
  intro p e s m args below meth c hc hv
  obtain ⟨rfl, hP, hK⟩ := hv
  have hx := hc.1
  have hb := hc.2.1
  have hown := hc.2.2.2.2.1
  have hts := hc.2.2.2.2.2.1
  refine en_F rfl (fun ls hl => ?_)
  have hl : lv_has ls 2 [(0, .ref z0), (1, .int p1)] := hl
  refine lv_iload_n hx hb dX5_isPlace_0 rfl (lv_at hl 1 rfl) ?_
  refine lv_bipush (v := (-4 : Int32)) hx hb dX5_isPlace_1 (by decide) ?_
  refine lv_icmp_lt (tgt := 24) hx hb dX5_isPlace_3 (by decide) (fun c1 => ?_) (fun c1 => ?_)
  · have hf := if_t hf c1
    refine lv_iconst (v := (0 : Int32)) hx hb dX5_isPlace_24 (by decide) ?_
    exact rRz hc rfl hf dX5_isPlace_25
  · have hf := if_f hf c1
    refine lv_iload_n hx hb dX5_isPlace_6 rfl (lv_at hl 1 rfl) ?_
    refine lv_aload_n hx hb dX5_isPlace_7 rfl (lv_at hl 0 rfl) ?_
    refine va_get (D := D) (ci := 5) (v := .ref z1) (C := RX5) (T := TX5) (N := 12) hx hb hts inX5 hown hK hP 0 rfl rfl 0 (by decide) (hts _ q_137) (fun _ h9 => h9) rfl dX5_isPlace_8 ?_
    refine va_get (D := D) (ci := 3) (v := .ref z2) (C := RX3) (T := TX3) (N := 6) hx hb hts inX3 hown hK hP 1 rfl rfl 0 (by decide) (hts _ q_94) (fun _ h9 => h9) rfl dX5_isPlace_11 ?_
    refine va_get (D := D) (ci := 0) (v := .int o_game_board_cells) (C := RX0) (T := TX0) (N := 7) hx hb hts inX0 hown hK hP 2 rfl rfl 1 (by decide) (hts _ q_53) (fun _ h9 => h9) rfl dX5_isPlace_14 ?_
    refine lv_icmp_ge (tgt := 24) hx hb dX5_isPlace_17 (by decide) (fun c2 => ?_) (fun c2 => ?_)
    · have hf := if_t hf c2
      refine lv_iconst (v := (0 : Int32)) hx hb dX5_isPlace_24 (by decide) ?_
      exact rRz hc rfl hf dX5_isPlace_25
    · have hf := if_f hf c2
      refine lv_iconst (v := (1 : Int32)) hx hb dX5_isPlace_20 (by decide) ?_
      refine lv_goto (tgt := 25) hx hb dX5_isPlace_21 (by decide) ?_
      exact rRz hc rfl hf dX5_isPlace_25
abbrev R_X5_regionError : Room := { frames := 1, cells := 0, slots := 0, locals := 21 }
def m_X5_regionError (o_game_stones0 : Int64) (o_game_stones1 : Int64) (o_game_board_cells : Int32) (o_game_board_all : Int64) (p1 : Int32) (p2 : Int32) (p3 : Int32) (p4 : Int64) (p5 : Int32) : Int32 := (if (m_X5_isPlayer p1) = 0 then (-11 : Int32) else (if (m_X5_isPlace o_game_board_cells p2) = 0 then (-11 : Int32) else (if (m_X5_isPlace o_game_board_cells p3) = 0 then (-11 : Int32) else (if p2 = p3 then (-11 : Int32) else (if (p4 &&& ((m_X3_free o_game_stones0 o_game_stones1 o_game_board_all) ^^^ (-1 : Int64))) = (0 : Int64) then (if (m_J13_bitCount_95d88 p4) ≤ p5 then (0 : Int32) else (-12 : Int32)) else (-12 : Int32))))))
set_option maxHeartbeats 4000000 in
set_option maxRecDepth 100000 in
theorem c_X5_regionError (l : Launch) (D : va_G) (C : Nat → ClassId) (z0 : Nat) (z1 : Nat) (z2 : Nat) (r_o_trial : Nat) (r_o_slots : Nat) (r_o_paths : Nat) (r_o_table : Nat) (r_o_contest : Nat) (r_o_foundBridges : Nat) (r_o_threatPlayers : Nat) (r_o_threatRegions : Nat) (o_threatCount : Int32) (r_o_text : Nat) (o_textLength : Int32) (o_game_made : Int32) (o_game_known : Int32) (r_o_game_list : Nat) (o_game_stones0 : Int64) (o_game_stones1 : Int64) (o_game_board_size : Int32) (o_game_board_cells : Int32) (o_game_board_all : Int64) (o_game_board_upper : Int64) (o_game_board_lower : Int64) (o_game_board_left : Int64) (o_game_board_right : Int64) (p1 : Int32) (p2 : Int32) (p3 : Int32) (p4 : Int64) (p5 : Int32) (o : Int32) (hf : m_X5_regionError o_game_stones0 o_game_stones1 o_game_board_cells o_game_board_all p1 p2 p3 p4 p5 = o) : Met l yX5_regionError (wl yX5_regionError cX5_regionError 7 (some .int)) R_X5_regionError (PR [.ref z0, .int p1, .int p2, .int p3, .long p4, .int p5] D C [cX5 z0 z1 r_o_trial r_o_slots r_o_paths r_o_table r_o_contest r_o_foundBridges r_o_threatPlayers r_o_threatRegions o_threatCount r_o_text o_textLength, cX3 z1 z2 o_game_made o_game_known r_o_game_list o_game_stones0 o_game_stones1, cX0 z2 o_game_board_size o_game_board_cells o_game_board_all o_game_board_upper o_game_board_lower o_game_board_left o_game_board_right]) (vp_Si (fun r => r = o)) 0 0 (fun _ => False) := by
  refine Met_ofC (by decide) ?_
  intro p e s m args below meth c hc hv
  obtain ⟨rfl, hP, hK⟩ := hv
  have hx := hc.1
  have hb := hc.2.1
  have hown := hc.2.2.2.2.1
  have hts := hc.2.2.2.2.2.1
  refine en_F rfl (fun ls hl => ?_)
  have hl : lv_has ls 7 [(0, .ref z0), (1, .int p1), (2, .int p2), (3, .int p3), (4, .long p4), (6, .int p5)] := hl
  refine lv_iload_n hx hb dX5_regionError_0 rfl (lv_at hl 1 rfl) ?_
  refine rcSi (As := [.int p1]) (rest := []) hc k_X5_125 (c_X5_isPlayer l D C p1  _ rfl) ⟨rfl, rfl, Nat.le_of_ble_eq_true rfl, Nat.le_of_ble_eq_true rfl⟩ (hP.sub [] rfl) hK hl rfl rfl (Nat.le_of_ble_eq_true rfl) ⟨Nat.zero_le _, Nat.zero_le _⟩ dX5_regionError_1 ?_
  refine lv_if_eq (tgt := 28) hx hb dX5_regionError_4 (by decide) (fun c1 => ?_) (fun c1 => ?_)
  · have hf := if_t hf c1
    refine lv_bipush (v := (-11 : Int32)) hx hb dX5_regionError_28 (by decide) ?_
    exact rRi hc hf dX5_regionError_30
  · have hf := if_f hf c1
    refine lv_aload_n hx hb dX5_regionError_7 rfl (lv_at hl 0 rfl) ?_
    refine lv_iload_n hx hb dX5_regionError_8 rfl (lv_at hl 2 rfl) ?_
    refine rcVi (As := [.int p2]) (rest := []) hc k_X5_311 (c_X5_isPlace l D C z0 z1 z2 r_o_trial r_o_slots r_o_paths r_o_table r_o_contest r_o_foundBridges r_o_threatPlayers r_o_threatRegions o_threatCount r_o_text o_textLength o_game_made o_game_known r_o_game_list o_game_stones0 o_game_stones1 o_game_board_size o_game_board_cells o_game_board_all o_game_board_upper o_game_board_lower o_game_board_left o_game_board_right p2  _ rfl) ⟨rfl, rfl, Nat.le_of_ble_eq_true rfl, Nat.le_of_ble_eq_true rfl⟩ (hP.sub [0, 1, 2] rfl) hK (q0 := 0) rfl rfl rfl hl rfl rfl (Nat.le_of_ble_eq_true rfl) ⟨Nat.zero_le _, Nat.zero_le _⟩ dX5_regionError_9 ?_
    refine lv_if_eq (tgt := 28) hx hb dX5_regionError_12 (by decide) (fun c2 => ?_) (fun c2 => ?_)
    · have hf := if_t hf c2
      refine lv_bipush (v := (-11 : Int32)) hx hb dX5_regionError_28 (by decide) ?_
      exact rRi hc hf dX5_regionError_30
    · have hf := if_f hf c2
      refine lv_aload_n hx hb dX5_regionError_15 rfl (lv_at hl 0 rfl) ?_
      refine lv_iload_n hx hb dX5_regionError_16 rfl (lv_at hl 3 rfl) ?_
      refine rcVi (As := [.int p3]) (rest := []) hc k_X5_311 (c_X5_isPlace l D C z0 z1 z2 r_o_trial r_o_slots r_o_paths r_o_table r_o_contest r_o_foundBridges r_o_threatPlayers r_o_threatRegions o_threatCount r_o_text o_textLength o_game_made o_game_known r_o_game_list o_game_stones0 o_game_stones1 o_game_board_size o_game_board_cells o_game_board_all o_game_board_upper o_game_board_lower o_game_board_left o_game_board_right p3  _ rfl) ⟨rfl, rfl, Nat.le_of_ble_eq_true rfl, Nat.le_of_ble_eq_true rfl⟩ (hP.sub [0, 1, 2] rfl) hK (q0 := 0) rfl rfl rfl hl rfl rfl (Nat.le_of_ble_eq_true rfl) ⟨Nat.zero_le _, Nat.zero_le _⟩ dX5_regionError_17 ?_
      refine lv_if_eq (tgt := 28) hx hb dX5_regionError_20 (by decide) (fun c3 => ?_) (fun c3 => ?_)
      · have hf := if_t hf c3
        refine lv_bipush (v := (-11 : Int32)) hx hb dX5_regionError_28 (by decide) ?_
        exact rRi hc hf dX5_regionError_30
      · have hf := if_f hf c3
        refine lv_iload_n hx hb dX5_regionError_23 rfl (lv_at hl 2 rfl) ?_
        refine lv_iload_n hx hb dX5_regionError_24 rfl (lv_at hl 3 rfl) ?_
        refine lv_icmp_ne (tgt := 31) hx hb dX5_regionError_25 (by decide) (fun c4 => ?_) (fun c4 => ?_)
        · have hf := if_f hf c4
          refine lv_lload hx hb dX5_regionError_31 (lv_at hl 4 rfl) ?_
          refine lv_aload_n hx hb dX5_regionError_33 rfl (lv_at hl 0 rfl) ?_
          refine va_get (D := D) (ci := 5) (v := .ref z1) (C := RX5) (T := TX5) (N := 12) hx hb hts inX5 hown hK hP 0 rfl rfl 0 (by decide) (hts _ q_137) (fun _ h9 => h9) rfl dX5_regionError_34 ?_
          refine rcVl (As := []) (rest := [.long p4]) hc k_X5_151 (c_X3_free l D C z1 z2 o_game_made o_game_known r_o_game_list o_game_stones0 o_game_stones1 o_game_board_size o_game_board_cells o_game_board_all o_game_board_upper o_game_board_lower o_game_board_left o_game_board_right  _ rfl) ⟨rfl, rfl, Nat.le_of_ble_eq_true rfl, Nat.le_of_ble_eq_true rfl⟩ (hP.sub [1, 2] rfl) hK (q0 := 0) rfl rfl rfl hl rfl rfl (Nat.le_of_ble_eq_true rfl) ⟨Nat.zero_le _, Nat.zero_le _⟩ dX5_regionError_37 ?_
          refine lv_ldc2 (v := (-1 : Int64)) hx hb hown (hts _ q_316) dX5_regionError_40 ?_
          refine lv_lxor hx hb dX5_regionError_43 ?_
          refine lv_land hx hb dX5_regionError_44 ?_
          refine lv_lconst (v := (0 : Int64)) hx hb dX5_regionError_45 (by decide) ?_
          refine lc_ne (tgt := 60) hx hb dX5_regionError_46 dX5_regionError_47 (by decide) (fun c5 => ?_) (fun c5 => ?_)
          · have hf := if_f hf c5
            refine lv_bipush (v := (-12 : Int32)) hx hb dX5_regionError_60 (by decide) ?_
            exact rRi hc hf dX5_regionError_62
          · have hf := if_t hf c5
            refine lv_lload hx hb dX5_regionError_50 (lv_at hl 4 rfl) ?_
            refine rcSi (As := [.long p4]) (rest := []) hc k_X5_177 (c_J13_bitCount_95d88 l D C p4  _ rfl) ⟨rfl, rfl, Nat.le_of_ble_eq_true rfl, Nat.le_of_ble_eq_true rfl⟩ (hP.sub [] rfl) hK hl rfl rfl (Nat.le_of_ble_eq_true rfl) ⟨Nat.zero_le _, Nat.zero_le _⟩ dX5_regionError_52 ?_
            refine lv_iload hx hb dX5_regionError_55 (lv_at hl 5 rfl) ?_
            refine lv_icmp_le (tgt := 63) hx hb dX5_regionError_57 (by decide) (fun c6 => ?_) (fun c6 => ?_)
            · have hf := if_t hf c6
              refine lv_iconst (v := (0 : Int32)) hx hb dX5_regionError_63 (by decide) ?_
              exact rRi hc hf dX5_regionError_64
            · have hf := if_f hf c6
              refine lv_bipush (v := (-12 : Int32)) hx hb dX5_regionError_60 (by decide) ?_
              exact rRi hc hf dX5_regionError_62
        · have hf := if_t hf c4
          refine lv_bipush (v := (-11 : Int32)) hx hb dX5_regionError_28 (by decide) ?_
          exact rRi hc hf dX5_regionError_30
abbrev R_X5_canConnect : Room := { frames := 34, cells := 0, slots := 0, locals := 1653 }
def m_X5_canConnect (o_game_stones0 : Int64) (o_game_stones1 : Int64) (o_contest_spots : Nat → Int64) (o_contest_memo : Nat → Int64) (o_game_board_size : Int32) (o_game_board_cells : Int32) (o_game_board_all : Int64) (o_game_board_upper : Int64) (o_game_board_lower : Int64) (o_game_board_left : Int64) (o_game_board_right : Int64) (p1 : Int32) (p2 : Int32) (p3 : Int32) (p4 : Int64) (p5 : Int32) : Option (Int32 × Int64 × Int64 × (Nat → Int64) × (Nat → Int64)) := ((m_X1_arrange o_contest_spots o_contest_memo (m_X0_cellsOf o_game_board_upper o_game_board_lower o_game_board_left o_game_board_right p2) (m_X0_cellsOf o_game_board_upper o_game_board_lower o_game_board_left o_game_board_right p3) p4).bind fun u1 => ((m_X1_result u1.1 u1.2.1 u1.2.2.1 u1.2.2.2 o_game_board_size o_game_board_cells o_game_board_all o_game_board_left o_game_board_right (m_X3_stonesOf o_game_stones0 o_game_stones1 p1) p4 p5).bind fun u2 => some ((m_X1_connects u2.1), u1.1, u1.2.1, u1.2.2.1, u2.2)))
set_option maxHeartbeats 4000000 in
set_option maxRecDepth 100000 in
theorem c_X5_canConnect (l : Launch) (D : va_G) (C : Nat → ClassId) (tp : Nat) (sz : Nat) (a0 : Nat) (a1 : Nat) (a2 : Nat) (a3 : Nat) (a4 : Nat) (a5 : Nat) (a6 : Nat) (a7 : Nat) (a8 : Nat) (a9 : Nat) (a10 : Nat) (a11 : Nat) (a12 : Nat) (a13 : Nat) (a14 : Nat) (a15 : Nat) (a16 : Nat) (z0 : Nat) (o_threatCount : Int32) (o_textLength : Int32) (o_game_made : Int32) (o_game_known : Int32) (o_game_stones0 : Int64) (o_game_stones1 : Int64) (o_game_list : Nat → Int32) (r_o_trial_board : Nat) (o_trial_made : Int32) (o_trial_known : Int32) (o_trial_stones0 : Int64) (o_trial_stones1 : Int64) (o_trial_list : Nat → Int32) (o_slots : Nat → Option Nat) (o_paths_layers : Nat → Int64) (o_table_count : Int32) (o_table_wins : Nat → Int64) (r_o_contest_board : Nat) (o_contest_from : Int64) (o_contest_to : Int64) (o_contest_spots : Nat → Int64) (o_contest_memo : Nat → Int64) (o_foundBridges : Nat → Int32) (o_threatPlayers : Nat → Int32) (o_threatRegions : Nat → Int64) (o_text : Nat → Int32) (o_game_board_size : Int32) (o_game_board_cells : Int32) (o_game_board_all : Int64) (o_game_board_upper : Int64) (o_game_board_lower : Int64) (o_game_board_left : Int64) (o_game_board_right : Int64) (p1 : Int32) (p2 : Int32) (p3 : Int32) (p4 : Int64) (p5 : Int32) (o : Int32 × Int64 × Int64 × (Nat → Int64) × (Nat → Int64)) (hf : m_X5_canConnect o_game_stones0 o_game_stones1 o_contest_spots o_contest_memo o_game_board_size o_game_board_cells o_game_board_all o_game_board_upper o_game_board_lower o_game_board_left o_game_board_right p1 p2 p3 p4 p5 = some o) : Met l yX5_canConnect (wl yX5_canConnect cX5_canConnect 8 (some .boolean)) R_X5_canConnect (PWX [.ref a0, .int p1, .int p2, .int p3, .long p4, .int p5] D C tp sz (wX5 C a0 a1 a2 a3 a4 a5 a6 a7 a8 a9 a10 a11 a12 a13 a14 a15 a16 o_threatCount o_textLength z0 o_game_made o_game_known o_game_stones0 o_game_stones1 o_game_list r_o_trial_board o_trial_made o_trial_known o_trial_stones0 o_trial_stones1 o_trial_list o_slots o_paths_layers o_table_count o_table_wins r_o_contest_board o_contest_from o_contest_to o_contest_spots o_contest_memo o_foundBridges o_threatPlayers o_threatRegions o_text) [cX0 z0 o_game_board_size o_game_board_cells o_game_board_all o_game_board_upper o_game_board_lower o_game_board_left o_game_board_right]) (QWi D o.1 (wX5 C a0 a1 a2 a3 a4 a5 a6 a7 a8 a9 a10 a11 a12 a13 a14 a15 a16 o_threatCount o_textLength z0 o_game_made o_game_known o_game_stones0 o_game_stones1 o_game_list r_o_trial_board o_trial_made o_trial_known o_trial_stones0 o_trial_stones1 o_trial_list o_slots o_paths_layers o_table_count o_table_wins z0 o.2.1 o.2.2.1 o.2.2.2.1 o.2.2.2.2 o_foundBridges o_threatPlayers o_threatRegions o_text) (va_A (wX5 C a0 a1 a2 a3 a4 a5 a6 a7 a8 a9 a10 a11 a12 a13 a14 a15 a16 o_threatCount o_textLength z0 o_game_made o_game_known o_game_stones0 o_game_stones1 o_game_list r_o_trial_board o_trial_made o_trial_known o_trial_stones0 o_trial_stones1 o_trial_list o_slots o_paths_layers o_table_count o_table_wins r_o_contest_board o_contest_from o_contest_to o_contest_spots o_contest_memo o_foundBridges o_threatPlayers o_threatRegions o_text) sz)) 0 0 (va_A (wX5 C a0 a1 a2 a3 a4 a5 a6 a7 a8 a9 a10 a11 a12 a13 a14 a15 a16 o_threatCount o_textLength z0 o_game_made o_game_known o_game_stones0 o_game_stones1 o_game_list r_o_trial_board o_trial_made o_trial_known o_trial_stones0 o_trial_stones1 o_trial_list o_slots o_paths_layers o_table_count o_table_wins r_o_contest_board o_contest_from o_contest_to o_contest_spots o_contest_memo o_foundBridges o_threatPlayers o_threatRegions o_text) sz) := by
  refine Met_ofC (by decide) ?_
  intro p e s m args below meth c hc hv
  obtain ⟨rfl, hsz, hP, hK, hD0, hO, hN0, hT0⟩ := hv
  subst hsz
  have hT : Xt tp (va_A (wX5 C a0 a1 a2 a3 a4 a5 a6 a7 a8 a9 a10 a11 a12 a13 a14 a15 a16 o_threatCount o_textLength z0 o_game_made o_game_known o_game_stones0 o_game_stones1 o_game_list r_o_trial_board o_trial_made o_trial_known o_trial_stones0 o_trial_stones1 o_trial_list o_slots o_paths_layers o_table_count o_table_wins r_o_contest_board o_contest_from o_contest_to o_contest_spots o_contest_memo o_foundBridges o_threatPlayers o_threatRegions o_text) s.heap.size) s s.heap := hT0
  have hD := hD0.self (sz := s.heap.size)
  have hN : ∀ q ∈ [cX0 z0 o_game_board_size o_game_board_cells o_game_board_all o_game_board_upper o_game_board_lower o_game_board_left o_game_board_right], ¬ va_A (wX5 C a0 a1 a2 a3 a4 a5 a6 a7 a8 a9 a10 a11 a12 a13 a14 a15 a16 o_threatCount o_textLength z0 o_game_made o_game_known o_game_stones0 o_game_stones1 o_game_list r_o_trial_board o_trial_made o_trial_known o_trial_stones0 o_trial_stones1 o_trial_list o_slots o_paths_layers o_table_count o_table_wins r_o_contest_board o_contest_from o_contest_to o_contest_spots o_contest_memo o_foundBridges o_threatPlayers o_threatRegions o_text) s.heap.size q.1 := hN0
  generalize hAe : va_A (wX5 C a0 a1 a2 a3 a4 a5 a6 a7 a8 a9 a10 a11 a12 a13 a14 a15 a16 o_threatCount o_textLength z0 o_game_made o_game_known o_game_stones0 o_game_stones1 o_game_list r_o_trial_board o_trial_made o_trial_known o_trial_stones0 o_trial_stones1 o_trial_list o_slots o_paths_layers o_table_count o_table_wins r_o_contest_board o_contest_from o_contest_to o_contest_spots o_contest_memo o_foundBridges o_threatPlayers o_threatRegions o_text) s.heap.size = A at hD hN hT ⊢
  have hA : ∀ q : Nat, s.heap.size ≤ q → A q := fun q h => by rw [← hAe]; exact Or.inr h
  have hS : va_S A s.heap s.heap [] := va_S.rf
  have hx := hc.1
  have hb := hc.2.1
  have hown := hc.2.2.2.2.1
  have hts := hc.2.2.2.2.2.1
  refine en_F rfl (fun ls hl => ?_)
  have hl : lv_has ls 8 [(0, .ref a0), (1, .int p1), (2, .int p2), (3, .int p3), (4, .long p4), (6, .int p5)] := hl
  refine lv_aload_n hx hb dX5_canConnect_0 rfl (lv_at hl 0 rfl) ?_
  refine va_get (D := D) (ci := 5) (v := .ref a1) (C := RX5) (T := TX5) (N := 12) hx hb hts inX5 hown hK hP 0 rfl rfl 0 (by decide) (hts _ q_137) (fun _ h9 => h9) rfl dX5_canConnect_1 ?_
  refine va_get (D := D) (ci := 3) (v := .ref z0) (C := RX3) (T := TX3) (N := 6) hx hb hts inX3 hown hK hP 1 rfl rfl 0 (by decide) (hts _ q_94) (fun _ h9 => h9) rfl dX5_canConnect_4 ?_
  refine lv_astore (lv' := [(7, .ref z0), (0, .ref a0), (1, .int p1), (2, .int p2), (3, .int p3), (4, .long p4), (6, .int p5)]) hx hb dX5_canConnect_7 hl (by decide) rfl (fun ls hl => ?_)
  refine lv_aload_n hx hb dX5_canConnect_9 rfl (lv_at hl 1 rfl) ?_
  refine va_get (D := D) (ci := 5) (v := .ref a10) (C := RX5) (T := TX5) (N := 12) hx hb hts inX5 hown hK hP 0 rfl rfl 5 (by decide) (hts _ q_142) (fun _ h9 => h9) rfl dX5_canConnect_10 ?_
  refine lv_aload hx hb dX5_canConnect_13 (lv_at hl 0 rfl) ?_
  refine lv_aload hx hb dX5_canConnect_15 (lv_at hl 0 rfl) ?_
  refine lv_iload_n hx hb dX5_canConnect_17 rfl (lv_at hl 3 rfl) ?_
  refine rcVl (As := [.int p2]) (rest := [.ref z0, .ref a10]) hc k_X5_314 (c_X0_cellsOf l D C z0 o_game_board_size o_game_board_cells o_game_board_all o_game_board_upper o_game_board_lower o_game_board_left o_game_board_right p2  _ rfl) ⟨rfl, rfl, Nat.le_of_ble_eq_true rfl, Nat.le_of_ble_eq_true rfl⟩ ((hP.app (ro_S hO hN hS)).sub [17] rfl) hK (q0 := 0) rfl rfl rfl hl rfl rfl (Nat.le_of_ble_eq_true rfl) ⟨Nat.zero_le _, Nat.zero_le _⟩ dX5_canConnect_18 ?_
  refine lv_aload hx hb dX5_canConnect_21 (lv_at hl 0 rfl) ?_
  refine lv_iload_n hx hb dX5_canConnect_23 rfl (lv_at hl 4 rfl) ?_
  refine rcVl (As := [.int p3]) (rest := [.long (m_X0_cellsOf o_game_board_upper o_game_board_lower o_game_board_left o_game_board_right p2), .ref z0, .ref a10]) hc k_X5_314 (c_X0_cellsOf l D C z0 o_game_board_size o_game_board_cells o_game_board_all o_game_board_upper o_game_board_lower o_game_board_left o_game_board_right p3  _ rfl) ⟨rfl, rfl, Nat.le_of_ble_eq_true rfl, Nat.le_of_ble_eq_true rfl⟩ ((hP.app (ro_S hO hN hS)).sub [17] rfl) hK (q0 := 0) rfl rfl rfl hl rfl rfl (Nat.le_of_ble_eq_true rfl) ⟨Nat.zero_le _, Nat.zero_le _⟩ dX5_canConnect_24 ?_
  refine lv_lload hx hb dX5_canConnect_27 (lv_at hl 5 rfl) ?_
  obtain ⟨u1, hu1, hf⟩ := bind_some hf
  refine wcVv (A := A) (wc := wX1 C a10 a11 a12 r_o_contest_board o_contest_from o_contest_to o_contest_spots o_contest_memo) (w1 := wX1 C a10 a11 a12 z0 u1.1 u1.2.1 u1.2.2.1 u1.2.2.2) (rc := []) (As := [.ref z0, .long (m_X0_cellsOf o_game_board_upper o_game_board_lower o_game_board_left o_game_board_right p2), .long (m_X0_cellsOf o_game_board_upper o_game_board_lower o_game_board_left o_game_board_right p3), .long p4]) (rest := []) hc k_X5_200 (c_X1_arrange l D C _ a10 a11 a12 r_o_contest_board o_contest_from o_contest_to o_contest_spots o_contest_memo z0 (m_X0_cellsOf o_game_board_upper o_game_board_lower o_game_board_left o_game_board_right p2) (m_X0_cellsOf o_game_board_upper o_game_board_lower o_game_board_left o_game_board_right p3) p4  _ hu1) ⟨rfl, rfl, Nat.le_of_ble_eq_true rfl, Nat.le_of_ble_eq_true rfl⟩ hP hD hS hA hK [10, 11, 12] [0, 1, 2, 3, 4, 5, 6, 7, 8, 9, 13, 14, 15, 16] rfl rfl rfl rfl (by decide) (hP.sub [] rfl) Ap_nil (q0 := 0) rfl rfl rfl hl rfl rfl (Nat.le_of_ble_eq_true rfl) ⟨Nat.zero_le _, Nat.zero_le _⟩ dX5_canConnect_29 (fun H locs hP hD hS => ?_)
  have hP : va_P D vwCl (wX5 C a0 a1 a2 a3 a4 a5 a6 a7 a8 a9 a10 a11 a12 a13 a14 a15 a16 o_threatCount o_textLength z0 o_game_made o_game_known o_game_stones0 o_game_stones1 o_game_list r_o_trial_board o_trial_made o_trial_known o_trial_stones0 o_trial_stones1 o_trial_list o_slots o_paths_layers o_table_count o_table_wins z0 u1.1 u1.2.1 u1.2.2.1 u1.2.2.2 o_foundBridges o_threatPlayers o_threatRegions o_text) H := hP.sub [0, 1, 2, 3, 4, 5, 6, 7, 8, 9, 14, 15, 16, 10, 11, 12, 13] rfl
  have hD : va_D A (wX5 C a0 a1 a2 a3 a4 a5 a6 a7 a8 a9 a10 a11 a12 a13 a14 a15 a16 o_threatCount o_textLength z0 o_game_made o_game_known o_game_stones0 o_game_stones1 o_game_list r_o_trial_board o_trial_made o_trial_known o_trial_stones0 o_trial_stones1 o_trial_list o_slots o_paths_layers o_table_count o_table_wins z0 u1.1 u1.2.1 u1.2.2.1 u1.2.2.2 o_foundBridges o_threatPlayers o_threatRegions o_text) := hD.sub [0, 1, 2, 3, 4, 5, 6, 7, 8, 9, 14, 15, 16, 10, 11, 12, 13] rfl rfl
  refine lv_aload_n hx hb dX5_canConnect_32 rfl (lv_at hl 1 rfl) ?_
  refine va_get (D := D) (ci := 5) (v := .ref a10) (C := RX5) (T := TX5) (N := 12) hx hb hts inX5 hown hK hP 0 rfl rfl 5 (by decide) (hts _ q_142) (fun _ h9 => h9) rfl dX5_canConnect_33 ?_
  refine lv_aload_n hx hb dX5_canConnect_36 rfl (lv_at hl 1 rfl) ?_
  refine va_get (D := D) (ci := 5) (v := .ref a1) (C := RX5) (T := TX5) (N := 12) hx hb hts inX5 hown hK hP 0 rfl rfl 0 (by decide) (hts _ q_137) (fun _ h9 => h9) rfl dX5_canConnect_37 ?_
  refine lv_iload_n hx hb dX5_canConnect_40 rfl (lv_at hl 2 rfl) ?_
  refine rcVl (As := [.int p1]) (rest := [.ref a10]) hc k_X5_101 (c_X3_stonesOf l D C a1 z0 o_game_made o_game_known a2 o_game_stones0 o_game_stones1 p1  _ rfl) ⟨rfl, rfl, Nat.le_of_ble_eq_true rfl, Nat.le_of_ble_eq_true rfl⟩ ((hP.app (ro_S hO hN hS)).sub [1] rfl) hK (q0 := 0) rfl rfl rfl hl rfl rfl (Nat.le_of_ble_eq_true rfl) ⟨Nat.zero_le _, Nat.zero_le _⟩ dX5_canConnect_41 ?_
  refine lv_lload hx hb dX5_canConnect_44 (lv_at hl 5 rfl) ?_
  refine lv_iload hx hb dX5_canConnect_46 (lv_at hl 6 rfl) ?_
  obtain ⟨u2, hu2, hf⟩ := bind_some hf
  refine wcViX (A := A) (wc := wX1 C a10 a11 a12 z0 u1.1 u1.2.1 u1.2.2.1 u1.2.2.2) (w1 := wX1 C a10 a11 a12 z0 u1.1 u1.2.1 u1.2.2.1 u2.2) (rc := [cX0 z0 o_game_board_size o_game_board_cells o_game_board_all o_game_board_upper o_game_board_lower o_game_board_left o_game_board_right]) (As := [.long (m_X3_stonesOf o_game_stones0 o_game_stones1 p1), .long p4, .int p5]) (rest := []) hc k_X5_307 (c_X1_result l D C tp _ a10 a11 a12 z0 u1.1 u1.2.1 u1.2.2.1 u1.2.2.2 o_game_board_size o_game_board_cells o_game_board_all o_game_board_upper o_game_board_lower o_game_board_left o_game_board_right (m_X3_stonesOf o_game_stones0 o_game_stones1 p1) p4 p5  _ hu2) ⟨rfl, rfl, Nat.le_of_ble_eq_true rfl, Nat.le_of_ble_eq_true rfl⟩ hP hD hS hA hK [10, 11, 12] [0, 1, 2, 3, 4, 5, 6, 7, 8, 9, 13, 14, 15, 16] rfl rfl rfl rfl (by decide) ((hP.app (ro_S hO hN hS)).sub [17] rfl) (Ap_cons (fun h9 => hN _ (List.mem_of_getElem? (i := 0) rfl) (va_free (wc := wX1 C a10 a11 a12 z0 u1.1 u1.2.1 u1.2.2.1 u1.2.2.2) hD hS hA [10, 11, 12] rfl _ h9)) Ap_nil) hT (q0 := 0) rfl rfl rfl hl rfl rfl (Nat.le_of_ble_eq_true rfl) ⟨Nat.zero_le _, Nat.zero_le _⟩ dX5_canConnect_48 (fun H locs hP hD hS => ?_)
  have hP : va_P D vwCl (wX5 C a0 a1 a2 a3 a4 a5 a6 a7 a8 a9 a10 a11 a12 a13 a14 a15 a16 o_threatCount o_textLength z0 o_game_made o_game_known o_game_stones0 o_game_stones1 o_game_list r_o_trial_board o_trial_made o_trial_known o_trial_stones0 o_trial_stones1 o_trial_list o_slots o_paths_layers o_table_count o_table_wins z0 u1.1 u1.2.1 u1.2.2.1 u2.2 o_foundBridges o_threatPlayers o_threatRegions o_text) H := hP.sub [0, 1, 2, 3, 4, 5, 6, 7, 8, 9, 14, 15, 16, 10, 11, 12, 13] rfl
  have hD : va_D A (wX5 C a0 a1 a2 a3 a4 a5 a6 a7 a8 a9 a10 a11 a12 a13 a14 a15 a16 o_threatCount o_textLength z0 o_game_made o_game_known o_game_stones0 o_game_stones1 o_game_list r_o_trial_board o_trial_made o_trial_known o_trial_stones0 o_trial_stones1 o_trial_list o_slots o_paths_layers o_table_count o_table_wins z0 u1.1 u1.2.1 u1.2.2.1 u2.2 o_foundBridges o_threatPlayers o_threatRegions o_text) := hD.sub [0, 1, 2, 3, 4, 5, 6, 7, 8, 9, 14, 15, 16, 10, 11, 12, 13] rfl rfl
  refine rcSi (As := [.int u2.1]) (rest := []) hc k_X5_190 (c_X1_connects l D C u2.1  _ rfl) ⟨rfl, rfl, Nat.le_of_ble_eq_true rfl, Nat.le_of_ble_eq_true rfl⟩ (hP.sub [] rfl) hK hl rfl rfl (Nat.le_of_ble_eq_true rfl) ⟨Nat.zero_le _, Nat.zero_le _⟩ dX5_canConnect_51 ?_
  have hf := Option.some.inj hf
  subst hf
  exact rWz hc (by unfold m_X1_connects; (repeat' split) <;> rfl) rfl hP hD hS dX5_canConnect_54
abbrev R_X5_strength : Room := { frames := 35, cells := 0, slots := 0, locals := 1680 }
def m_X5_strength (z0 : Nat) (o_game_stones0 : Int64) (o_game_stones1 : Int64) (r_o_contest_board : Nat) (o_contest_from : Int64) (o_contest_to : Int64) (o_contest_spots : Nat → Int64) (o_contest_memo : Nat → Int64) (o_game_board_size : Int32) (o_game_board_cells : Int32) (o_game_board_all : Int64) (o_game_board_upper : Int64) (o_game_board_lower : Int64) (o_game_board_left : Int64) (o_game_board_right : Int64) (p1 : Int32) (p2 : Int32) (p3 : Int32) (p4 : Int64) : Option (Int32 × Nat × Int64 × Int64 × (Nat → Int64) × (Nat → Int64)) := (jlet (m_X5_regionError o_game_stones0 o_game_stones1 o_game_board_cells o_game_board_all p1 p2 p3 p4 (8 : Int32)) fun x1 => (if 0 ≤ x1 then ((m_X5_canConnect o_game_stones0 o_game_stones1 o_contest_spots o_contest_memo o_game_board_size o_game_board_cells o_game_board_all o_game_board_upper o_game_board_lower o_game_board_left o_game_board_right p1 p2 p3 p4 (0 : Int32)).bind fun u3 => (if u3.1 = 0 then ((m_X5_canConnect o_game_stones0 o_game_stones1 u3.2.2.2.1 u3.2.2.2.2 o_game_board_size o_game_board_cells o_game_board_all o_game_board_upper o_game_board_lower o_game_board_left o_game_board_right p1 p2 p3 p4 (1 : Int32)).bind fun u5 => (if u5.1 = 0 then some ((0 : Int32), z0, u5.2.1, u5.2.2.1, u5.2.2.2.1, u5.2.2.2.2) else some ((1 : Int32), z0, u5.2.1, u5.2.2.1, u5.2.2.2.1, u5.2.2.2.2))) else some ((2 : Int32), z0, u3.2.1, u3.2.2.1, u3.2.2.2.1, u3.2.2.2.2))) else some (x1, r_o_contest_board, o_contest_from, o_contest_to, o_contest_spots, o_contest_memo)))
set_option maxHeartbeats 4000000 in
set_option maxRecDepth 100000 in
theorem c_X5_strength (l : Launch) (D : va_G) (C : Nat → ClassId) (tp : Nat) (sz : Nat) (a0 : Nat) (a1 : Nat) (a2 : Nat) (a3 : Nat) (a4 : Nat) (a5 : Nat) (a6 : Nat) (a7 : Nat) (a8 : Nat) (a9 : Nat) (a10 : Nat) (a11 : Nat) (a12 : Nat) (a13 : Nat) (a14 : Nat) (a15 : Nat) (a16 : Nat) (z0 : Nat) (o_threatCount : Int32) (o_textLength : Int32) (o_game_made : Int32) (o_game_known : Int32) (o_game_stones0 : Int64) (o_game_stones1 : Int64) (o_game_list : Nat → Int32) (r_o_trial_board : Nat) (o_trial_made : Int32) (o_trial_known : Int32) (o_trial_stones0 : Int64) (o_trial_stones1 : Int64) (o_trial_list : Nat → Int32) (o_slots : Nat → Option Nat) (o_paths_layers : Nat → Int64) (o_table_count : Int32) (o_table_wins : Nat → Int64) (r_o_contest_board : Nat) (o_contest_from : Int64) (o_contest_to : Int64) (o_contest_spots : Nat → Int64) (o_contest_memo : Nat → Int64) (o_foundBridges : Nat → Int32) (o_threatPlayers : Nat → Int32) (o_threatRegions : Nat → Int64) (o_text : Nat → Int32) (o_game_board_size : Int32) (o_game_board_cells : Int32) (o_game_board_all : Int64) (o_game_board_upper : Int64) (o_game_board_lower : Int64) (o_game_board_left : Int64) (o_game_board_right : Int64) (p1 : Int32) (p2 : Int32) (p3 : Int32) (p4 : Int64) (o : Int32 × Nat × Int64 × Int64 × (Nat → Int64) × (Nat → Int64)) (hf : m_X5_strength z0 o_game_stones0 o_game_stones1 r_o_contest_board o_contest_from o_contest_to o_contest_spots o_contest_memo o_game_board_size o_game_board_cells o_game_board_all o_game_board_upper o_game_board_lower o_game_board_left o_game_board_right p1 p2 p3 p4 = some o) : Met l yX5_strength (wl yX5_strength cX5_strength 7 (some .int)) R_X5_strength (PWX [.ref a0, .int p1, .int p2, .int p3, .long p4] D C tp sz (wX5 C a0 a1 a2 a3 a4 a5 a6 a7 a8 a9 a10 a11 a12 a13 a14 a15 a16 o_threatCount o_textLength z0 o_game_made o_game_known o_game_stones0 o_game_stones1 o_game_list r_o_trial_board o_trial_made o_trial_known o_trial_stones0 o_trial_stones1 o_trial_list o_slots o_paths_layers o_table_count o_table_wins r_o_contest_board o_contest_from o_contest_to o_contest_spots o_contest_memo o_foundBridges o_threatPlayers o_threatRegions o_text) [cX0 z0 o_game_board_size o_game_board_cells o_game_board_all o_game_board_upper o_game_board_lower o_game_board_left o_game_board_right]) (QWi D o.1 (wX5 C a0 a1 a2 a3 a4 a5 a6 a7 a8 a9 a10 a11 a12 a13 a14 a15 a16 o_threatCount o_textLength z0 o_game_made o_game_known o_game_stones0 o_game_stones1 o_game_list r_o_trial_board o_trial_made o_trial_known o_trial_stones0 o_trial_stones1 o_trial_list o_slots o_paths_layers o_table_count o_table_wins o.2.1 o.2.2.1 o.2.2.2.1 o.2.2.2.2.1 o.2.2.2.2.2 o_foundBridges o_threatPlayers o_threatRegions o_text) (va_A (wX5 C a0 a1 a2 a3 a4 a5 a6 a7 a8 a9 a10 a11 a12 a13 a14 a15 a16 o_threatCount o_textLength z0 o_game_made o_game_known o_game_stones0 o_game_stones1 o_game_list r_o_trial_board o_trial_made o_trial_known o_trial_stones0 o_trial_stones1 o_trial_list o_slots o_paths_layers o_table_count o_table_wins r_o_contest_board o_contest_from o_contest_to o_contest_spots o_contest_memo o_foundBridges o_threatPlayers o_threatRegions o_text) sz)) 0 0 (va_A (wX5 C a0 a1 a2 a3 a4 a5 a6 a7 a8 a9 a10 a11 a12 a13 a14 a15 a16 o_threatCount o_textLength z0 o_game_made o_game_known o_game_stones0 o_game_stones1 o_game_list r_o_trial_board o_trial_made o_trial_known o_trial_stones0 o_trial_stones1 o_trial_list o_slots o_paths_layers o_table_count o_table_wins r_o_contest_board o_contest_from o_contest_to o_contest_spots o_contest_memo o_foundBridges o_threatPlayers o_threatRegions o_text) sz) := by
  refine Met_ofC (by decide) ?_
  intro p e s m args below meth c hc hv
  obtain ⟨rfl, hsz, hP, hK, hD0, hO, hN0, hT0⟩ := hv
  subst hsz
  have hT : Xt tp (va_A (wX5 C a0 a1 a2 a3 a4 a5 a6 a7 a8 a9 a10 a11 a12 a13 a14 a15 a16 o_threatCount o_textLength z0 o_game_made o_game_known o_game_stones0 o_game_stones1 o_game_list r_o_trial_board o_trial_made o_trial_known o_trial_stones0 o_trial_stones1 o_trial_list o_slots o_paths_layers o_table_count o_table_wins r_o_contest_board o_contest_from o_contest_to o_contest_spots o_contest_memo o_foundBridges o_threatPlayers o_threatRegions o_text) s.heap.size) s s.heap := hT0
  have hD := hD0.self (sz := s.heap.size)
  have hN : ∀ q ∈ [cX0 z0 o_game_board_size o_game_board_cells o_game_board_all o_game_board_upper o_game_board_lower o_game_board_left o_game_board_right], ¬ va_A (wX5 C a0 a1 a2 a3 a4 a5 a6 a7 a8 a9 a10 a11 a12 a13 a14 a15 a16 o_threatCount o_textLength z0 o_game_made o_game_known o_game_stones0 o_game_stones1 o_game_list r_o_trial_board o_trial_made o_trial_known o_trial_stones0 o_trial_stones1 o_trial_list o_slots o_paths_layers o_table_count o_table_wins r_o_contest_board o_contest_from o_contest_to o_contest_spots o_contest_memo o_foundBridges o_threatPlayers o_threatRegions o_text) s.heap.size q.1 := hN0
  generalize hAe : va_A (wX5 C a0 a1 a2 a3 a4 a5 a6 a7 a8 a9 a10 a11 a12 a13 a14 a15 a16 o_threatCount o_textLength z0 o_game_made o_game_known o_game_stones0 o_game_stones1 o_game_list r_o_trial_board o_trial_made o_trial_known o_trial_stones0 o_trial_stones1 o_trial_list o_slots o_paths_layers o_table_count o_table_wins r_o_contest_board o_contest_from o_contest_to o_contest_spots o_contest_memo o_foundBridges o_threatPlayers o_threatRegions o_text) s.heap.size = A at hD hN hT ⊢
  have hA : ∀ q : Nat, s.heap.size ≤ q → A q := fun q h => by rw [← hAe]; exact Or.inr h
  have hS : va_S A s.heap s.heap [] := va_S.rf
  have hx := hc.1
  have hb := hc.2.1
  have hown := hc.2.2.2.2.1
  have hts := hc.2.2.2.2.2.1
  refine en_F rfl (fun ls hl => ?_)
  have hl : lv_has ls 7 [(0, .ref a0), (1, .int p1), (2, .int p2), (3, .int p3), (4, .long p4)] := hl
  refine lv_aload_n hx hb dX5_strength_0 rfl (lv_at hl 0 rfl) ?_
  refine lv_iload_n hx hb dX5_strength_1 rfl (lv_at hl 1 rfl) ?_
  refine lv_iload_n hx hb dX5_strength_2 rfl (lv_at hl 2 rfl) ?_
  refine lv_iload_n hx hb dX5_strength_3 rfl (lv_at hl 3 rfl) ?_
  refine lv_lload hx hb dX5_strength_4 (lv_at hl 4 rfl) ?_
  refine lv_bipush (v := (8 : Int32)) hx hb dX5_strength_6 (by decide) ?_
  refine rcVi (As := [.int p1, .int p2, .int p3, .long p4, .int (8 : Int32)]) (rest := []) hc k_X5_216 (c_X5_regionError l D C a0 a1 z0 a3 a5 a6 a8 a10 a13 a14 a15 o_threatCount a16 o_textLength o_game_made o_game_known a2 o_game_stones0 o_game_stones1 o_game_board_size o_game_board_cells o_game_board_all o_game_board_upper o_game_board_lower o_game_board_left o_game_board_right p1 p2 p3 p4 (8 : Int32)  _ rfl) ⟨rfl, rfl, Nat.le_of_ble_eq_true rfl, Nat.le_of_ble_eq_true rfl⟩ ((hP.app (ro_S hO hN hS)).sub [0, 1, 17] rfl) hK (q0 := 0) rfl rfl rfl hl rfl rfl (Nat.le_of_ble_eq_true rfl) ⟨Nat.zero_le _, Nat.zero_le _⟩ dX5_strength_8 ?_
  refine lv_topi (fun x1 ex1 => ?_)
  have hf := jlet_t hf ex1
  refine lv_istore (lv' := [(6, .int x1), (0, .ref a0), (1, .int p1), (2, .int p2), (3, .int p3), (4, .long p4)]) hx hb dX5_strength_11 hl (by decide) rfl (fun ls hl => ?_)
  refine lv_iload hx hb dX5_strength_13 (lv_at hl 0 rfl) ?_
  refine lv_if_ge (tgt := 21) hx hb dX5_strength_15 (by decide) (fun c2 => ?_) (fun c2 => ?_)
  · have hf := if_t hf c2
    refine lv_aload_n hx hb dX5_strength_21 rfl (lv_at hl 1 rfl) ?_
    refine lv_iload_n hx hb dX5_strength_22 rfl (lv_at hl 2 rfl) ?_
    refine lv_iload_n hx hb dX5_strength_23 rfl (lv_at hl 3 rfl) ?_
    refine lv_iload_n hx hb dX5_strength_24 rfl (lv_at hl 4 rfl) ?_
    refine lv_lload hx hb dX5_strength_25 (lv_at hl 5 rfl) ?_
    refine lv_iconst (v := (0 : Int32)) hx hb dX5_strength_27 (by decide) ?_
    obtain ⟨u3, hu3, hf⟩ := bind_some hf
    refine wcViX (A := A) (wc := wX5 C a0 a1 a2 a3 a4 a5 a6 a7 a8 a9 a10 a11 a12 a13 a14 a15 a16 o_threatCount o_textLength z0 o_game_made o_game_known o_game_stones0 o_game_stones1 o_game_list r_o_trial_board o_trial_made o_trial_known o_trial_stones0 o_trial_stones1 o_trial_list o_slots o_paths_layers o_table_count o_table_wins r_o_contest_board o_contest_from o_contest_to o_contest_spots o_contest_memo o_foundBridges o_threatPlayers o_threatRegions o_text) (w1 := wX5 C a0 a1 a2 a3 a4 a5 a6 a7 a8 a9 a10 a11 a12 a13 a14 a15 a16 o_threatCount o_textLength z0 o_game_made o_game_known o_game_stones0 o_game_stones1 o_game_list r_o_trial_board o_trial_made o_trial_known o_trial_stones0 o_trial_stones1 o_trial_list o_slots o_paths_layers o_table_count o_table_wins z0 u3.2.1 u3.2.2.1 u3.2.2.2.1 u3.2.2.2.2 o_foundBridges o_threatPlayers o_threatRegions o_text) (rc := [cX0 z0 o_game_board_size o_game_board_cells o_game_board_all o_game_board_upper o_game_board_lower o_game_board_left o_game_board_right]) (As := [.int p1, .int p2, .int p3, .long p4, .int (0 : Int32)]) (rest := []) hc k_X5_220 (c_X5_canConnect l D C tp _ a0 a1 a2 a3 a4 a5 a6 a7 a8 a9 a10 a11 a12 a13 a14 a15 a16 z0 o_threatCount o_textLength o_game_made o_game_known o_game_stones0 o_game_stones1 o_game_list r_o_trial_board o_trial_made o_trial_known o_trial_stones0 o_trial_stones1 o_trial_list o_slots o_paths_layers o_table_count o_table_wins r_o_contest_board o_contest_from o_contest_to o_contest_spots o_contest_memo o_foundBridges o_threatPlayers o_threatRegions o_text o_game_board_size o_game_board_cells o_game_board_all o_game_board_upper o_game_board_lower o_game_board_left o_game_board_right p1 p2 p3 p4 (0 : Int32)  _ hu3) ⟨rfl, rfl, Nat.le_of_ble_eq_true rfl, Nat.le_of_ble_eq_true rfl⟩ hP hD hS hA hK [0, 1, 2, 3, 4, 5, 6, 7, 8, 9, 10, 11, 12, 13, 14, 15, 16] [] rfl rfl rfl rfl (by decide) ((hP.app (ro_S hO hN hS)).sub [17] rfl) (Ap_cons (fun h9 => hN _ (List.mem_of_getElem? (i := 0) rfl) (va_free (wc := wX5 C a0 a1 a2 a3 a4 a5 a6 a7 a8 a9 a10 a11 a12 a13 a14 a15 a16 o_threatCount o_textLength z0 o_game_made o_game_known o_game_stones0 o_game_stones1 o_game_list r_o_trial_board o_trial_made o_trial_known o_trial_stones0 o_trial_stones1 o_trial_list o_slots o_paths_layers o_table_count o_table_wins r_o_contest_board o_contest_from o_contest_to o_contest_spots o_contest_memo o_foundBridges o_threatPlayers o_threatRegions o_text) hD hS hA [0, 1, 2, 3, 4, 5, 6, 7, 8, 9, 10, 11, 12, 13, 14, 15, 16] rfl _ h9)) Ap_nil) hT (q0 := 0) rfl rfl rfl hl rfl rfl (Nat.le_of_ble_eq_true rfl) ⟨Nat.zero_le _, Nat.zero_le _⟩ dX5_strength_28 (fun H locs hP hD hS => ?_)
    have hP : va_P D vwCl (wX5 C a0 a1 a2 a3 a4 a5 a6 a7 a8 a9 a10 a11 a12 a13 a14 a15 a16 o_threatCount o_textLength z0 o_game_made o_game_known o_game_stones0 o_game_stones1 o_game_list r_o_trial_board o_trial_made o_trial_known o_trial_stones0 o_trial_stones1 o_trial_list o_slots o_paths_layers o_table_count o_table_wins z0 u3.2.1 u3.2.2.1 u3.2.2.2.1 u3.2.2.2.2 o_foundBridges o_threatPlayers o_threatRegions o_text) H := hP.sub [0, 1, 2, 3, 4, 5, 6, 7, 8, 9, 10, 11, 12, 13, 14, 15, 16] rfl
    have hD : va_D A (wX5 C a0 a1 a2 a3 a4 a5 a6 a7 a8 a9 a10 a11 a12 a13 a14 a15 a16 o_threatCount o_textLength z0 o_game_made o_game_known o_game_stones0 o_game_stones1 o_game_list r_o_trial_board o_trial_made o_trial_known o_trial_stones0 o_trial_stones1 o_trial_list o_slots o_paths_layers o_table_count o_table_wins z0 u3.2.1 u3.2.2.1 u3.2.2.2.1 u3.2.2.2.2 o_foundBridges o_threatPlayers o_threatRegions o_text) := hD.sub [0, 1, 2, 3, 4, 5, 6, 7, 8, 9, 10, 11, 12, 13, 14, 15, 16] rfl rfl
    refine lv_if_eq (tgt := 36) hx hb dX5_strength_31 (by decide) (fun c4 => ?_) (fun c4 => ?_)
    · have hf := if_t hf c4
      refine lv_aload_n hx hb dX5_strength_36 rfl (lv_at hl 1 rfl) ?_
      refine lv_iload_n hx hb dX5_strength_37 rfl (lv_at hl 2 rfl) ?_
      refine lv_iload_n hx hb dX5_strength_38 rfl (lv_at hl 3 rfl) ?_
      refine lv_iload_n hx hb dX5_strength_39 rfl (lv_at hl 4 rfl) ?_
      refine lv_lload hx hb dX5_strength_40 (lv_at hl 5 rfl) ?_
      refine lv_iconst (v := (1 : Int32)) hx hb dX5_strength_42 (by decide) ?_
      obtain ⟨u5, hu5, hf⟩ := bind_some hf
      refine wcViX (A := A) (wc := wX5 C a0 a1 a2 a3 a4 a5 a6 a7 a8 a9 a10 a11 a12 a13 a14 a15 a16 o_threatCount o_textLength z0 o_game_made o_game_known o_game_stones0 o_game_stones1 o_game_list r_o_trial_board o_trial_made o_trial_known o_trial_stones0 o_trial_stones1 o_trial_list o_slots o_paths_layers o_table_count o_table_wins z0 u3.2.1 u3.2.2.1 u3.2.2.2.1 u3.2.2.2.2 o_foundBridges o_threatPlayers o_threatRegions o_text) (w1 := wX5 C a0 a1 a2 a3 a4 a5 a6 a7 a8 a9 a10 a11 a12 a13 a14 a15 a16 o_threatCount o_textLength z0 o_game_made o_game_known o_game_stones0 o_game_stones1 o_game_list r_o_trial_board o_trial_made o_trial_known o_trial_stones0 o_trial_stones1 o_trial_list o_slots o_paths_layers o_table_count o_table_wins z0 u5.2.1 u5.2.2.1 u5.2.2.2.1 u5.2.2.2.2 o_foundBridges o_threatPlayers o_threatRegions o_text) (rc := [cX0 z0 o_game_board_size o_game_board_cells o_game_board_all o_game_board_upper o_game_board_lower o_game_board_left o_game_board_right]) (As := [.int p1, .int p2, .int p3, .long p4, .int (1 : Int32)]) (rest := []) hc k_X5_220 (c_X5_canConnect l D C tp _ a0 a1 a2 a3 a4 a5 a6 a7 a8 a9 a10 a11 a12 a13 a14 a15 a16 z0 o_threatCount o_textLength o_game_made o_game_known o_game_stones0 o_game_stones1 o_game_list r_o_trial_board o_trial_made o_trial_known o_trial_stones0 o_trial_stones1 o_trial_list o_slots o_paths_layers o_table_count o_table_wins z0 u3.2.1 u3.2.2.1 u3.2.2.2.1 u3.2.2.2.2 o_foundBridges o_threatPlayers o_threatRegions o_text o_game_board_size o_game_board_cells o_game_board_all o_game_board_upper o_game_board_lower o_game_board_left o_game_board_right p1 p2 p3 p4 (1 : Int32)  _ hu5) ⟨rfl, rfl, Nat.le_of_ble_eq_true rfl, Nat.le_of_ble_eq_true rfl⟩ hP hD hS hA hK [0, 1, 2, 3, 4, 5, 6, 7, 8, 9, 10, 11, 12, 13, 14, 15, 16] [] rfl rfl rfl rfl (by decide) ((hP.app (ro_S hO hN hS)).sub [17] rfl) (Ap_cons (fun h9 => hN _ (List.mem_of_getElem? (i := 0) rfl) (va_free (wc := wX5 C a0 a1 a2 a3 a4 a5 a6 a7 a8 a9 a10 a11 a12 a13 a14 a15 a16 o_threatCount o_textLength z0 o_game_made o_game_known o_game_stones0 o_game_stones1 o_game_list r_o_trial_board o_trial_made o_trial_known o_trial_stones0 o_trial_stones1 o_trial_list o_slots o_paths_layers o_table_count o_table_wins z0 u3.2.1 u3.2.2.1 u3.2.2.2.1 u3.2.2.2.2 o_foundBridges o_threatPlayers o_threatRegions o_text) hD hS hA [0, 1, 2, 3, 4, 5, 6, 7, 8, 9, 10, 11, 12, 13, 14, 15, 16] rfl _ h9)) Ap_nil) hT (q0 := 0) rfl rfl rfl hl rfl rfl (Nat.le_of_ble_eq_true rfl) ⟨Nat.zero_le _, Nat.zero_le _⟩ dX5_strength_43 (fun H locs hP hD hS => ?_)
      have hP : va_P D vwCl (wX5 C a0 a1 a2 a3 a4 a5 a6 a7 a8 a9 a10 a11 a12 a13 a14 a15 a16 o_threatCount o_textLength z0 o_game_made o_game_known o_game_stones0 o_game_stones1 o_game_list r_o_trial_board o_trial_made o_trial_known o_trial_stones0 o_trial_stones1 o_trial_list o_slots o_paths_layers o_table_count o_table_wins z0 u5.2.1 u5.2.2.1 u5.2.2.2.1 u5.2.2.2.2 o_foundBridges o_threatPlayers o_threatRegions o_text) H := hP.sub [0, 1, 2, 3, 4, 5, 6, 7, 8, 9, 10, 11, 12, 13, 14, 15, 16] rfl
      have hD : va_D A (wX5 C a0 a1 a2 a3 a4 a5 a6 a7 a8 a9 a10 a11 a12 a13 a14 a15 a16 o_threatCount o_textLength z0 o_game_made o_game_known o_game_stones0 o_game_stones1 o_game_list r_o_trial_board o_trial_made o_trial_known o_trial_stones0 o_trial_stones1 o_trial_list o_slots o_paths_layers o_table_count o_table_wins z0 u5.2.1 u5.2.2.1 u5.2.2.2.1 u5.2.2.2.2 o_foundBridges o_threatPlayers o_threatRegions o_text) := hD.sub [0, 1, 2, 3, 4, 5, 6, 7, 8, 9, 10, 11, 12, 13, 14, 15, 16] rfl rfl
      refine lv_if_eq (tgt := 53) hx hb dX5_strength_46 (by decide) (fun c6 => ?_) (fun c6 => ?_)
      · have hf := if_t hf c6
        refine lv_iconst (v := (0 : Int32)) hx hb dX5_strength_53 (by decide) ?_
        have hf := Option.some.inj hf
        subst hf
        exact rWi hc rfl hP hD hS dX5_strength_54
      · have hf := if_f hf c6
        refine lv_iconst (v := (1 : Int32)) hx hb dX5_strength_49 (by decide) ?_
        refine lv_goto (tgt := 54) hx hb dX5_strength_50 (by decide) ?_
        have hf := Option.some.inj hf
        subst hf
        exact rWi hc rfl hP hD hS dX5_strength_54
    · have hf := if_f hf c4
      refine lv_iconst (v := (2 : Int32)) hx hb dX5_strength_34 (by decide) ?_
      have hf := Option.some.inj hf
      subst hf
      exact rWi hc rfl hP hD hS dX5_strength_35
  · have hf := if_f hf c2
    refine lv_iload hx hb dX5_strength_18 (lv_at hl 0 rfl) ?_
    have hf := Option.some.inj hf
    subst hf
    exact rWi hc rfl hP hD hS dX5_strength_20
abbrev R_X5_smallestFull : Room := { frames := 35, cells := 0, slots := 0, locals := 1680 }
def m_X5_smallestFull_c78 (p4 : Int64) (k40 : Int32 → Int32 → Int64 → Int32 → Nat → Int64 → Int64 → (Nat → Int64) → (Nat → Int64) → Option (Int32 × Nat × Int64 × Int64 × (Nat → Int64) × (Nat → Int64))) (v7 : Int32) (v8 : Int32) (v9 : Int64) (v11 : Int32) (r_o_contest_board : Nat) (o_contest_from : Int64) (o_contest_to : Int64) (o_contest_spots : Nat → Int64) (o_contest_memo : Nat → Int64) : Option (Int32 × Nat × Int64 × Int64 × (Nat → Int64) × (Nat → Int64)) := (k40 v7 v8 (m_X5_nextSubset v9 p4) (v11 + (1 : Int32)) r_o_contest_board o_contest_from o_contest_to o_contest_spots o_contest_memo)
set_option maxHeartbeats 4000000 in
set_option maxRecDepth 100000 in
theorem w_X5_smallestFull_c78 {p : Program} {l : Launch} {e : Env} {s : State} {m : MethodId} {args : Array Value} {below : List Frame} {meth : Method} {c : Code} {D : va_G} {C : Nat → ClassId} {A : Nat → Prop} {tp : Nat} {a0 : Nat} {a1 : Nat} {a2 : Nat} {a3 : Nat} {a4 : Nat} {a5 : Nat} {a6 : Nat} {a7 : Nat} {a8 : Nat} {a9 : Nat} {a10 : Nat} {a11 : Nat} {a12 : Nat} {a13 : Nat} {a14 : Nat} {a15 : Nat} {a16 : Nat} {z0 : Nat} {o_threatCount : Int32} {o_textLength : Int32} {o_game_made : Int32} {o_game_known : Int32} {o_game_stones0 : Int64} {o_game_stones1 : Int64} {o_game_list : Nat → Int32} {r_o_trial_board : Nat} {o_trial_made : Int32} {o_trial_known : Int32} {o_trial_stones0 : Int64} {o_trial_stones1 : Int64} {o_trial_list : Nat → Int32} {o_slots : Nat → Option Nat} {o_paths_layers : Nat → Int64} {o_table_count : Int32} {o_table_wins : Nat → Int64} {o_foundBridges : Nat → Int32} {o_threatPlayers : Nat → Int32} {o_threatRegions : Nat → Int64} {o_text : Nat → Int32} {o_game_board_size : Int32} {o_game_board_cells : Int32} {o_game_board_all : Int64} {o_game_board_upper : Int64} {o_game_board_lower : Int64} {o_game_board_left : Int64} {o_game_board_right : Int64} {p1 : Int32} {p2 : Int32} {p3 : Int32} {p4 : Int64} {o : Int32 × Nat × Int64 × Int64 × (Nat → Int64) × (Nat → Int64)} (hc : Cx p s m args meth c yX5_smallestFull cX5_smallestFull 13 (some .int)) (hK : va_K D vwCl (TY C) s) (hA : ∀ q : Nat, s.heap.size ≤ q → A q) (hO : va_P D vwCl [cX0 z0 o_game_board_size o_game_board_cells o_game_board_all o_game_board_upper o_game_board_lower o_game_board_left o_game_board_right] s.heap) (hN : ∀ q ∈ [cX0 z0 o_game_board_size o_game_board_cells o_game_board_all o_game_board_upper o_game_board_lower o_game_board_left o_game_board_right], ¬ A q.1) (hT : Xt tp A s s.heap) (k40 : Int32 → Int32 → Int64 → Int32 → Nat → Int64 → Int64 → (Nat → Int64) → (Nat → Int64) → Option (Int32 × Nat × Int64 × Int64 × (Nat → Int64) × (Nat → Int64))) (hk40 : ∀ (v7 : Int32) (v8 : Int32) (v9 : Int64) (v11 : Int32) (r_o_contest_board : Nat) (o_contest_from : Int64) (o_contest_to : Int64) (o_contest_spots : Nat → Int64) (o_contest_memo : Nat → Int64), k40 v7 v8 v9 v11 r_o_contest_board o_contest_from o_contest_to o_contest_spots o_contest_memo = some o → ∀ (H : Heap) (locs : List Loc), va_P D vwCl (wX5 C a0 a1 a2 a3 a4 a5 a6 a7 a8 a9 a10 a11 a12 a13 a14 a15 a16 o_threatCount o_textLength z0 o_game_made o_game_known o_game_stones0 o_game_stones1 o_game_list r_o_trial_board o_trial_made o_trial_known o_trial_stones0 o_trial_stones1 o_trial_list o_slots o_paths_layers o_table_count o_table_wins r_o_contest_board o_contest_from o_contest_to o_contest_spots o_contest_memo o_foundBridges o_threatPlayers o_threatRegions o_text) H → va_D A (wX5 C a0 a1 a2 a3 a4 a5 a6 a7 a8 a9 a10 a11 a12 a13 a14 a15 a16 o_threatCount o_textLength z0 o_game_made o_game_known o_game_stones0 o_game_stones1 o_game_list r_o_trial_board o_trial_made o_trial_known o_trial_stones0 o_trial_stones1 o_trial_list o_slots o_paths_layers o_table_count o_table_wins r_o_contest_board o_contest_from o_contest_to o_contest_spots o_contest_memo o_foundBridges o_threatPlayers o_threatRegions o_text) → va_S A s.heap H locs → ∀ (ls : Array Slot), lv_has ls 13 [(0, .ref a0), (1, .int p1), (2, .int p2), (3, .int p3), (4, .long p4), (7, .int v7), (8, .int v8), (9, .long v9), (11, .int v11)] → W p l e R_X5_smallestFull s m args below meth c H locs 0 0 (MQ below (QWi D o.1 (wX5 C a0 a1 a2 a3 a4 a5 a6 a7 a8 a9 a10 a11 a12 a13 a14 a15 a16 o_threatCount o_textLength z0 o_game_made o_game_known o_game_stones0 o_game_stones1 o_game_list r_o_trial_board o_trial_made o_trial_known o_trial_stones0 o_trial_stones1 o_trial_list o_slots o_paths_layers o_table_count o_table_wins o.2.1 o.2.2.1 o.2.2.2.1 o.2.2.2.2.1 o.2.2.2.2.2 o_foundBridges o_threatPlayers o_threatRegions o_text) A) args s 0 0 A) (F0 m 40 ls [])) : ∀ (v7 : Int32) (v8 : Int32) (v9 : Int64) (v11 : Int32) (r_o_contest_board : Nat) (o_contest_from : Int64) (o_contest_to : Int64) (o_contest_spots : Nat → Int64) (o_contest_memo : Nat → Int64), m_X5_smallestFull_c78 p4 k40 v7 v8 v9 v11 r_o_contest_board o_contest_from o_contest_to o_contest_spots o_contest_memo = some o → ∀ (H : Heap) (locs : List Loc), va_P D vwCl (wX5 C a0 a1 a2 a3 a4 a5 a6 a7 a8 a9 a10 a11 a12 a13 a14 a15 a16 o_threatCount o_textLength z0 o_game_made o_game_known o_game_stones0 o_game_stones1 o_game_list r_o_trial_board o_trial_made o_trial_known o_trial_stones0 o_trial_stones1 o_trial_list o_slots o_paths_layers o_table_count o_table_wins r_o_contest_board o_contest_from o_contest_to o_contest_spots o_contest_memo o_foundBridges o_threatPlayers o_threatRegions o_text) H → va_D A (wX5 C a0 a1 a2 a3 a4 a5 a6 a7 a8 a9 a10 a11 a12 a13 a14 a15 a16 o_threatCount o_textLength z0 o_game_made o_game_known o_game_stones0 o_game_stones1 o_game_list r_o_trial_board o_trial_made o_trial_known o_trial_stones0 o_trial_stones1 o_trial_list o_slots o_paths_layers o_table_count o_table_wins r_o_contest_board o_contest_from o_contest_to o_contest_spots o_contest_memo o_foundBridges o_threatPlayers o_threatRegions o_text) → va_S A s.heap H locs → ∀ (ls : Array Slot), lv_has ls 13 [(0, .ref a0), (1, .int p1), (2, .int p2), (3, .int p3), (4, .long p4), (7, .int v7), (8, .int v8), (9, .long v9), (11, .int v11)] → W p l e R_X5_smallestFull s m args below meth c H locs 0 0 (MQ below (QWi D o.1 (wX5 C a0 a1 a2 a3 a4 a5 a6 a7 a8 a9 a10 a11 a12 a13 a14 a15 a16 o_threatCount o_textLength z0 o_game_made o_game_known o_game_stones0 o_game_stones1 o_game_list r_o_trial_board o_trial_made o_trial_known o_trial_stones0 o_trial_stones1 o_trial_list o_slots o_paths_layers o_table_count o_table_wins o.2.1 o.2.2.1 o.2.2.2.1 o.2.2.2.2.1 o.2.2.2.2.2 o_foundBridges o_threatPlayers o_threatRegions o_text) A) args s 0 0 A) (F0 m 78 ls []) := by
  have hx := hc.1
  have hb := hc.2.1
  have hown := hc.2.2.2.2.1
  have hts := hc.2.2.2.2.2.1
  intro v7 v8 v9 v11 r_o_contest_board o_contest_from o_contest_to o_contest_spots o_contest_memo hf H locs hP hD hS ls hl
  refine lv_lload hx hb dX5_smallestFull_78 (lv_at hl 7 rfl) ?_
  refine lv_lload hx hb dX5_smallestFull_80 (lv_at hl 4 rfl) ?_
  refine rcSl (As := [.long v9, .long p4]) (rest := []) hc k_X5_224 (c_X5_nextSubset l D C v9 p4  _ rfl) ⟨rfl, rfl, Nat.le_of_ble_eq_true rfl, Nat.le_of_ble_eq_true rfl⟩ (hP.sub [] rfl) hK hl rfl rfl (Nat.le_of_ble_eq_true rfl) ⟨Nat.zero_le _, Nat.zero_le _⟩ dX5_smallestFull_82 ?_
  refine lv_lstore (lv' := [(9, .long (m_X5_nextSubset v9 p4)), (0, .ref a0), (1, .int p1), (2, .int p2), (3, .int p3), (4, .long p4), (7, .int v7), (8, .int v8), (11, .int v11)]) hx hb dX5_smallestFull_85 hl (by decide) rfl (fun ls hl => ?_)
  refine lv_iinc (v := (v11 + (1 : Int32))) (lv' := [(11, .int (v11 + (1 : Int32))), (9, .long (m_X5_nextSubset v9 p4)), (0, .ref a0), (1, .int p1), (2, .int p2), (3, .int p3), (4, .long p4), (7, .int v7), (8, .int v8)]) hx hb dX5_smallestFull_87 hl (k := 8) rfl rfl (by decide) rfl (fun ls hl => ?_)
  refine lv_goto (tgt := 40) hx hb dX5_smallestFull_90 (by decide) ?_
  exact hk40 v7 v8 (m_X5_nextSubset v9 p4) (v11 + (1 : Int32)) r_o_contest_board o_contest_from o_contest_to o_contest_spots o_contest_memo hf _ _ hP hD hS ls (lv_sub hl [2, 3, 4, 5, 6, 7, 8, 1, 0] rfl)
def m_X5_smallestFull_c40 (z0 : Nat) (o_game_stones0 : Int64) (o_game_stones1 : Int64) (o_game_board_size : Int32) (o_game_board_cells : Int32) (o_game_board_all : Int64) (o_game_board_upper : Int64) (o_game_board_lower : Int64) (o_game_board_left : Int64) (o_game_board_right : Int64) (p1 : Int32) (p2 : Int32) (p3 : Int32) (p4 : Int64)  : Nat → Int32 → Int32 → Int64 → Int32 → Nat → Int64 → Int64 → (Nat → Int64) → (Nat → Int64) → Option (Int32 × Nat × Int64 × Int64 × (Nat → Int64) × (Nat → Int64))
  | 0, _, _, _, _, _, _, _, _, _ => none
  | n + 1, v7, v8, v9, v11, r_o_contest_board, o_contest_from, o_contest_to, o_contest_spots, o_contest_memo => (if v8 ≤ v11 then (if (6 : Int32) < v7 then some ((-15 : Int32), r_o_contest_board, o_contest_from, o_contest_to, o_contest_spots, o_contest_memo) else some (v7, r_o_contest_board, o_contest_from, o_contest_to, o_contest_spots, o_contest_memo)) else (if v7 ≤ (m_J13_bitCount_95d88 v9) then (m_X5_smallestFull_c78 p4 (m_X5_smallestFull_c40 z0 o_game_stones0 o_game_stones1 o_game_board_size o_game_board_cells o_game_board_all o_game_board_upper o_game_board_lower o_game_board_left o_game_board_right p1 p2 p3 p4  n) v7 v8 v9 v11 r_o_contest_board o_contest_from o_contest_to o_contest_spots o_contest_memo) else ((m_X5_canConnect o_game_stones0 o_game_stones1 o_contest_spots o_contest_memo o_game_board_size o_game_board_cells o_game_board_all o_game_board_upper o_game_board_lower o_game_board_left o_game_board_right p1 p2 p3 v9 (0 : Int32)).bind fun u6 => (if u6.1 = 0 then (m_X5_smallestFull_c78 p4 (m_X5_smallestFull_c40 z0 o_game_stones0 o_game_stones1 o_game_board_size o_game_board_cells o_game_board_all o_game_board_upper o_game_board_lower o_game_board_left o_game_board_right p1 p2 p3 p4  n) v7 v8 v9 v11 z0 u6.2.1 u6.2.2.1 u6.2.2.2.1 u6.2.2.2.2) else (m_X5_smallestFull_c78 p4 (m_X5_smallestFull_c40 z0 o_game_stones0 o_game_stones1 o_game_board_size o_game_board_cells o_game_board_all o_game_board_upper o_game_board_lower o_game_board_left o_game_board_right p1 p2 p3 p4  n) (m_J13_bitCount_95d88 v9) v8 v9 v11 z0 u6.2.1 u6.2.2.1 u6.2.2.2.1 u6.2.2.2.2)))))
set_option maxHeartbeats 4000000 in
set_option maxRecDepth 100000 in
theorem w_X5_smallestFull_c40 {p : Program} {l : Launch} {e : Env} {s : State} {m : MethodId} {args : Array Value} {below : List Frame} {meth : Method} {c : Code} {D : va_G} {C : Nat → ClassId} {A : Nat → Prop} {tp : Nat} {a0 : Nat} {a1 : Nat} {a2 : Nat} {a3 : Nat} {a4 : Nat} {a5 : Nat} {a6 : Nat} {a7 : Nat} {a8 : Nat} {a9 : Nat} {a10 : Nat} {a11 : Nat} {a12 : Nat} {a13 : Nat} {a14 : Nat} {a15 : Nat} {a16 : Nat} {z0 : Nat} {o_threatCount : Int32} {o_textLength : Int32} {o_game_made : Int32} {o_game_known : Int32} {o_game_stones0 : Int64} {o_game_stones1 : Int64} {o_game_list : Nat → Int32} {r_o_trial_board : Nat} {o_trial_made : Int32} {o_trial_known : Int32} {o_trial_stones0 : Int64} {o_trial_stones1 : Int64} {o_trial_list : Nat → Int32} {o_slots : Nat → Option Nat} {o_paths_layers : Nat → Int64} {o_table_count : Int32} {o_table_wins : Nat → Int64} {o_foundBridges : Nat → Int32} {o_threatPlayers : Nat → Int32} {o_threatRegions : Nat → Int64} {o_text : Nat → Int32} {o_game_board_size : Int32} {o_game_board_cells : Int32} {o_game_board_all : Int64} {o_game_board_upper : Int64} {o_game_board_lower : Int64} {o_game_board_left : Int64} {o_game_board_right : Int64} {p1 : Int32} {p2 : Int32} {p3 : Int32} {p4 : Int64} {o : Int32 × Nat × Int64 × Int64 × (Nat → Int64) × (Nat → Int64)} (hc : Cx p s m args meth c yX5_smallestFull cX5_smallestFull 13 (some .int)) (hK : va_K D vwCl (TY C) s) (hA : ∀ q : Nat, s.heap.size ≤ q → A q) (hO : va_P D vwCl [cX0 z0 o_game_board_size o_game_board_cells o_game_board_all o_game_board_upper o_game_board_lower o_game_board_left o_game_board_right] s.heap) (hN : ∀ q ∈ [cX0 z0 o_game_board_size o_game_board_cells o_game_board_all o_game_board_upper o_game_board_lower o_game_board_left o_game_board_right], ¬ A q.1) (hT : Xt tp A s s.heap) : ∀ (n : Nat), ∀ (v7 : Int32) (v8 : Int32) (v9 : Int64) (v11 : Int32) (r_o_contest_board : Nat) (o_contest_from : Int64) (o_contest_to : Int64) (o_contest_spots : Nat → Int64) (o_contest_memo : Nat → Int64), m_X5_smallestFull_c40 z0 o_game_stones0 o_game_stones1 o_game_board_size o_game_board_cells o_game_board_all o_game_board_upper o_game_board_lower o_game_board_left o_game_board_right p1 p2 p3 p4  n v7 v8 v9 v11 r_o_contest_board o_contest_from o_contest_to o_contest_spots o_contest_memo = some o → ∀ (H : Heap) (locs : List Loc), va_P D vwCl (wX5 C a0 a1 a2 a3 a4 a5 a6 a7 a8 a9 a10 a11 a12 a13 a14 a15 a16 o_threatCount o_textLength z0 o_game_made o_game_known o_game_stones0 o_game_stones1 o_game_list r_o_trial_board o_trial_made o_trial_known o_trial_stones0 o_trial_stones1 o_trial_list o_slots o_paths_layers o_table_count o_table_wins r_o_contest_board o_contest_from o_contest_to o_contest_spots o_contest_memo o_foundBridges o_threatPlayers o_threatRegions o_text) H → va_D A (wX5 C a0 a1 a2 a3 a4 a5 a6 a7 a8 a9 a10 a11 a12 a13 a14 a15 a16 o_threatCount o_textLength z0 o_game_made o_game_known o_game_stones0 o_game_stones1 o_game_list r_o_trial_board o_trial_made o_trial_known o_trial_stones0 o_trial_stones1 o_trial_list o_slots o_paths_layers o_table_count o_table_wins r_o_contest_board o_contest_from o_contest_to o_contest_spots o_contest_memo o_foundBridges o_threatPlayers o_threatRegions o_text) → va_S A s.heap H locs → ∀ (ls : Array Slot), lv_has ls 13 [(0, .ref a0), (1, .int p1), (2, .int p2), (3, .int p3), (4, .long p4), (7, .int v7), (8, .int v8), (9, .long v9), (11, .int v11)] → W p l e R_X5_smallestFull s m args below meth c H locs 0 0 (MQ below (QWi D o.1 (wX5 C a0 a1 a2 a3 a4 a5 a6 a7 a8 a9 a10 a11 a12 a13 a14 a15 a16 o_threatCount o_textLength z0 o_game_made o_game_known o_game_stones0 o_game_stones1 o_game_list r_o_trial_board o_trial_made o_trial_known o_trial_stones0 o_trial_stones1 o_trial_list o_slots o_paths_layers o_table_count o_table_wins o.2.1 o.2.2.1 o.2.2.2.1 o.2.2.2.2.1 o.2.2.2.2.2 o_foundBridges o_threatPlayers o_threatRegions o_text) A) args s 0 0 A) (F0 m 40 ls []) := by
  have hx := hc.1
  have hb := hc.2.1
  have hown := hc.2.2.2.2.1
  have hts := hc.2.2.2.2.2.1
  intro n
  induction n with
  | zero =>
    intro v7 v8 v9 v11 r_o_contest_board o_contest_from o_contest_to o_contest_spots o_contest_memo hf
    exact no_some hf
  | succ n ih =>
    intro v7 v8 v9 v11 r_o_contest_board o_contest_from o_contest_to o_contest_spots o_contest_memo hf H locs hP hD hS ls hl
    refine lv_iload hx hb dX5_smallestFull_40 (lv_at hl 8 rfl) ?_
    refine lv_iload hx hb dX5_smallestFull_42 (lv_at hl 6 rfl) ?_
    refine lv_icmp_ge (tgt := 93) hx hb dX5_smallestFull_44 (by decide) (fun c3 => ?_) (fun c3 => ?_)
    · have hf := if_t hf c3
      refine lv_iload hx hb dX5_smallestFull_93 (lv_at hl 5 rfl) ?_
      refine lv_bipush (v := (6 : Int32)) hx hb dX5_smallestFull_95 (by decide) ?_
      refine lv_icmp_gt (tgt := 105) hx hb dX5_smallestFull_97 (by decide) (fun c4 => ?_) (fun c4 => ?_)
      · have hf := if_t hf c4
        refine lv_bipush (v := (-15 : Int32)) hx hb dX5_smallestFull_105 (by decide) ?_
        have hf := Option.some.inj hf
        subst hf
        exact rWi hc rfl hP hD hS dX5_smallestFull_107
      · have hf := if_f hf c4
        refine lv_iload hx hb dX5_smallestFull_100 (lv_at hl 5 rfl) ?_
        refine lv_goto (tgt := 107) hx hb dX5_smallestFull_102 (by decide) ?_
        have hf := Option.some.inj hf
        subst hf
        exact rWi hc rfl hP hD hS dX5_smallestFull_107
    · have hf := if_f hf c3
      refine lv_lload hx hb dX5_smallestFull_47 (lv_at hl 7 rfl) ?_
      refine rcSi (As := [.long v9]) (rest := []) hc k_X5_177 (c_J13_bitCount_95d88 l D C v9  _ rfl) ⟨rfl, rfl, Nat.le_of_ble_eq_true rfl, Nat.le_of_ble_eq_true rfl⟩ (hP.sub [] rfl) hK hl rfl rfl (Nat.le_of_ble_eq_true rfl) ⟨Nat.zero_le _, Nat.zero_le _⟩ dX5_smallestFull_49 ?_
      refine lv_istore (lv' := [(12, .int (m_J13_bitCount_95d88 v9)), (0, .ref a0), (1, .int p1), (2, .int p2), (3, .int p3), (4, .long p4), (7, .int v7), (8, .int v8), (9, .long v9), (11, .int v11)]) hx hb dX5_smallestFull_52 hl (by decide) rfl (fun ls hl => ?_)
      refine lv_iload hx hb dX5_smallestFull_54 (lv_at hl 0 rfl) ?_
      refine lv_iload hx hb dX5_smallestFull_56 (lv_at hl 6 rfl) ?_
      refine lv_icmp_ge (tgt := 78) hx hb dX5_smallestFull_58 (by decide) (fun c5 => ?_) (fun c5 => ?_)
      · have hf := if_t hf c5
        exact w_X5_smallestFull_c78 hc hK hA hO hN hT (m_X5_smallestFull_c40 z0 o_game_stones0 o_game_stones1 o_game_board_size o_game_board_cells o_game_board_all o_game_board_upper o_game_board_lower o_game_board_left o_game_board_right p1 p2 p3 p4  n) ih v7 v8 v9 v11 r_o_contest_board o_contest_from o_contest_to o_contest_spots o_contest_memo hf _ _ hP hD hS ls (lv_sub hl [1, 2, 3, 4, 5, 6, 7, 8, 9] rfl)
      · have hf := if_f hf c5
        refine lv_aload_n hx hb dX5_smallestFull_61 rfl (lv_at hl 1 rfl) ?_
        refine lv_iload_n hx hb dX5_smallestFull_62 rfl (lv_at hl 2 rfl) ?_
        refine lv_iload_n hx hb dX5_smallestFull_63 rfl (lv_at hl 3 rfl) ?_
        refine lv_iload_n hx hb dX5_smallestFull_64 rfl (lv_at hl 4 rfl) ?_
        refine lv_lload hx hb dX5_smallestFull_65 (lv_at hl 8 rfl) ?_
        refine lv_iconst (v := (0 : Int32)) hx hb dX5_smallestFull_67 (by decide) ?_
        obtain ⟨u6, hu6, hf⟩ := bind_some hf
        refine wcViX (A := A) (wc := wX5 C a0 a1 a2 a3 a4 a5 a6 a7 a8 a9 a10 a11 a12 a13 a14 a15 a16 o_threatCount o_textLength z0 o_game_made o_game_known o_game_stones0 o_game_stones1 o_game_list r_o_trial_board o_trial_made o_trial_known o_trial_stones0 o_trial_stones1 o_trial_list o_slots o_paths_layers o_table_count o_table_wins r_o_contest_board o_contest_from o_contest_to o_contest_spots o_contest_memo o_foundBridges o_threatPlayers o_threatRegions o_text) (w1 := wX5 C a0 a1 a2 a3 a4 a5 a6 a7 a8 a9 a10 a11 a12 a13 a14 a15 a16 o_threatCount o_textLength z0 o_game_made o_game_known o_game_stones0 o_game_stones1 o_game_list r_o_trial_board o_trial_made o_trial_known o_trial_stones0 o_trial_stones1 o_trial_list o_slots o_paths_layers o_table_count o_table_wins z0 u6.2.1 u6.2.2.1 u6.2.2.2.1 u6.2.2.2.2 o_foundBridges o_threatPlayers o_threatRegions o_text) (rc := [cX0 z0 o_game_board_size o_game_board_cells o_game_board_all o_game_board_upper o_game_board_lower o_game_board_left o_game_board_right]) (As := [.int p1, .int p2, .int p3, .long v9, .int (0 : Int32)]) (rest := []) hc k_X5_220 (c_X5_canConnect l D C tp _ a0 a1 a2 a3 a4 a5 a6 a7 a8 a9 a10 a11 a12 a13 a14 a15 a16 z0 o_threatCount o_textLength o_game_made o_game_known o_game_stones0 o_game_stones1 o_game_list r_o_trial_board o_trial_made o_trial_known o_trial_stones0 o_trial_stones1 o_trial_list o_slots o_paths_layers o_table_count o_table_wins r_o_contest_board o_contest_from o_contest_to o_contest_spots o_contest_memo o_foundBridges o_threatPlayers o_threatRegions o_text o_game_board_size o_game_board_cells o_game_board_all o_game_board_upper o_game_board_lower o_game_board_left o_game_board_right p1 p2 p3 v9 (0 : Int32)  _ hu6) ⟨rfl, rfl, Nat.le_of_ble_eq_true rfl, Nat.le_of_ble_eq_true rfl⟩ hP hD hS hA hK [0, 1, 2, 3, 4, 5, 6, 7, 8, 9, 10, 11, 12, 13, 14, 15, 16] [] rfl rfl rfl rfl (by decide) ((hP.app (ro_S hO hN hS)).sub [17] rfl) (Ap_cons (fun h9 => hN _ (List.mem_of_getElem? (i := 0) rfl) (va_free (wc := wX5 C a0 a1 a2 a3 a4 a5 a6 a7 a8 a9 a10 a11 a12 a13 a14 a15 a16 o_threatCount o_textLength z0 o_game_made o_game_known o_game_stones0 o_game_stones1 o_game_list r_o_trial_board o_trial_made o_trial_known o_trial_stones0 o_trial_stones1 o_trial_list o_slots o_paths_layers o_table_count o_table_wins r_o_contest_board o_contest_from o_contest_to o_contest_spots o_contest_memo o_foundBridges o_threatPlayers o_threatRegions o_text) hD hS hA [0, 1, 2, 3, 4, 5, 6, 7, 8, 9, 10, 11, 12, 13, 14, 15, 16] rfl _ h9)) Ap_nil) hT (q0 := 0) rfl rfl rfl hl rfl rfl (Nat.le_of_ble_eq_true rfl) ⟨Nat.zero_le _, Nat.zero_le _⟩ dX5_smallestFull_68 (fun H locs hP hD hS => ?_)
        have hP : va_P D vwCl (wX5 C a0 a1 a2 a3 a4 a5 a6 a7 a8 a9 a10 a11 a12 a13 a14 a15 a16 o_threatCount o_textLength z0 o_game_made o_game_known o_game_stones0 o_game_stones1 o_game_list r_o_trial_board o_trial_made o_trial_known o_trial_stones0 o_trial_stones1 o_trial_list o_slots o_paths_layers o_table_count o_table_wins z0 u6.2.1 u6.2.2.1 u6.2.2.2.1 u6.2.2.2.2 o_foundBridges o_threatPlayers o_threatRegions o_text) H := hP.sub [0, 1, 2, 3, 4, 5, 6, 7, 8, 9, 10, 11, 12, 13, 14, 15, 16] rfl
        have hD : va_D A (wX5 C a0 a1 a2 a3 a4 a5 a6 a7 a8 a9 a10 a11 a12 a13 a14 a15 a16 o_threatCount o_textLength z0 o_game_made o_game_known o_game_stones0 o_game_stones1 o_game_list r_o_trial_board o_trial_made o_trial_known o_trial_stones0 o_trial_stones1 o_trial_list o_slots o_paths_layers o_table_count o_table_wins z0 u6.2.1 u6.2.2.1 u6.2.2.2.1 u6.2.2.2.2 o_foundBridges o_threatPlayers o_threatRegions o_text) := hD.sub [0, 1, 2, 3, 4, 5, 6, 7, 8, 9, 10, 11, 12, 13, 14, 15, 16] rfl rfl
        refine lv_if_eq (tgt := 78) hx hb dX5_smallestFull_71 (by decide) (fun c7 => ?_) (fun c7 => ?_)
        · have hf := if_t hf c7
          exact w_X5_smallestFull_c78 hc hK hA hO hN hT (m_X5_smallestFull_c40 z0 o_game_stones0 o_game_stones1 o_game_board_size o_game_board_cells o_game_board_all o_game_board_upper o_game_board_lower o_game_board_left o_game_board_right p1 p2 p3 p4  n) ih v7 v8 v9 v11 z0 u6.2.1 u6.2.2.1 u6.2.2.2.1 u6.2.2.2.2 hf _ _ hP hD hS ls (lv_sub hl [1, 2, 3, 4, 5, 6, 7, 8, 9] rfl)
        · have hf := if_f hf c7
          refine lv_iload hx hb dX5_smallestFull_74 (lv_at hl 0 rfl) ?_
          refine lv_istore (lv' := [(7, .int (m_J13_bitCount_95d88 v9)), (12, .int (m_J13_bitCount_95d88 v9)), (0, .ref a0), (1, .int p1), (2, .int p2), (3, .int p3), (4, .long p4), (8, .int v8), (9, .long v9), (11, .int v11)]) hx hb dX5_smallestFull_76 hl (by decide) rfl (fun ls hl => ?_)
          exact w_X5_smallestFull_c78 hc hK hA hO hN hT (m_X5_smallestFull_c40 z0 o_game_stones0 o_game_stones1 o_game_board_size o_game_board_cells o_game_board_all o_game_board_upper o_game_board_lower o_game_board_left o_game_board_right p1 p2 p3 p4  n) ih (m_J13_bitCount_95d88 v9) v8 v9 v11 z0 u6.2.1 u6.2.2.1 u6.2.2.2.1 u6.2.2.2.2 hf _ _ hP hD hS ls (lv_sub hl [2, 3, 4, 5, 6, 0, 7, 8, 9] rfl)
def m_X5_smallestFull (z0 : Nat) (o_game_stones0 : Int64) (o_game_stones1 : Int64) (r_o_contest_board : Nat) (o_contest_from : Int64) (o_contest_to : Int64) (o_contest_spots : Nat → Int64) (o_contest_memo : Nat → Int64) (o_game_board_size : Int32) (o_game_board_cells : Int32) (o_game_board_all : Int64) (o_game_board_upper : Int64) (o_game_board_lower : Int64) (o_game_board_left : Int64) (o_game_board_right : Int64) (p1 : Int32) (p2 : Int32) (p3 : Int32) (p4 : Int64) : Option (Int32 × Nat × Int64 × Int64 × (Nat → Int64) × (Nat → Int64)) := (jlet (m_X5_regionError o_game_stones0 o_game_stones1 o_game_board_cells o_game_board_all p1 p2 p3 p4 (6 : Int32)) fun x1 => (if 0 ≤ x1 then (m_X5_smallestFull_c40 z0 o_game_stones0 o_game_stones1 o_game_board_size o_game_board_cells o_game_board_all o_game_board_upper o_game_board_lower o_game_board_left o_game_board_right p1 p2 p3 p4 FU (7 : Int32) ((1 : Int32) <<< ((m_J13_bitCount_95d88 p4) &&& 31)) (0 : Int64) (0 : Int32) r_o_contest_board o_contest_from o_contest_to o_contest_spots o_contest_memo) else some (x1, r_o_contest_board, o_contest_from, o_contest_to, o_contest_spots, o_contest_memo)))
set_option maxHeartbeats 4000000 in
set_option maxRecDepth 100000 in
theorem c_X5_smallestFull (l : Launch) (D : va_G) (C : Nat → ClassId) (tp : Nat) (sz : Nat) (a0 : Nat) (a1 : Nat) (a2 : Nat) (a3 : Nat) (a4 : Nat) (a5 : Nat) (a6 : Nat) (a7 : Nat) (a8 : Nat) (a9 : Nat) (a10 : Nat) (a11 : Nat) (a12 : Nat) (a13 : Nat) (a14 : Nat) (a15 : Nat) (a16 : Nat) (z0 : Nat) (o_threatCount : Int32) (o_textLength : Int32) (o_game_made : Int32) (o_game_known : Int32) (o_game_stones0 : Int64) (o_game_stones1 : Int64) (o_game_list : Nat → Int32) (r_o_trial_board : Nat) (o_trial_made : Int32) (o_trial_known : Int32) (o_trial_stones0 : Int64) (o_trial_stones1 : Int64) (o_trial_list : Nat → Int32) (o_slots : Nat → Option Nat) (o_paths_layers : Nat → Int64) (o_table_count : Int32) (o_table_wins : Nat → Int64) (r_o_contest_board : Nat) (o_contest_from : Int64) (o_contest_to : Int64) (o_contest_spots : Nat → Int64) (o_contest_memo : Nat → Int64) (o_foundBridges : Nat → Int32) (o_threatPlayers : Nat → Int32) (o_threatRegions : Nat → Int64) (o_text : Nat → Int32) (o_game_board_size : Int32) (o_game_board_cells : Int32) (o_game_board_all : Int64) (o_game_board_upper : Int64) (o_game_board_lower : Int64) (o_game_board_left : Int64) (o_game_board_right : Int64) (p1 : Int32) (p2 : Int32) (p3 : Int32) (p4 : Int64) (o : Int32 × Nat × Int64 × Int64 × (Nat → Int64) × (Nat → Int64)) (hf : m_X5_smallestFull z0 o_game_stones0 o_game_stones1 r_o_contest_board o_contest_from o_contest_to o_contest_spots o_contest_memo o_game_board_size o_game_board_cells o_game_board_all o_game_board_upper o_game_board_lower o_game_board_left o_game_board_right p1 p2 p3 p4 = some o) : Met l yX5_smallestFull (wl yX5_smallestFull cX5_smallestFull 13 (some .int)) R_X5_smallestFull (PWX [.ref a0, .int p1, .int p2, .int p3, .long p4] D C tp sz (wX5 C a0 a1 a2 a3 a4 a5 a6 a7 a8 a9 a10 a11 a12 a13 a14 a15 a16 o_threatCount o_textLength z0 o_game_made o_game_known o_game_stones0 o_game_stones1 o_game_list r_o_trial_board o_trial_made o_trial_known o_trial_stones0 o_trial_stones1 o_trial_list o_slots o_paths_layers o_table_count o_table_wins r_o_contest_board o_contest_from o_contest_to o_contest_spots o_contest_memo o_foundBridges o_threatPlayers o_threatRegions o_text) [cX0 z0 o_game_board_size o_game_board_cells o_game_board_all o_game_board_upper o_game_board_lower o_game_board_left o_game_board_right]) (QWi D o.1 (wX5 C a0 a1 a2 a3 a4 a5 a6 a7 a8 a9 a10 a11 a12 a13 a14 a15 a16 o_threatCount o_textLength z0 o_game_made o_game_known o_game_stones0 o_game_stones1 o_game_list r_o_trial_board o_trial_made o_trial_known o_trial_stones0 o_trial_stones1 o_trial_list o_slots o_paths_layers o_table_count o_table_wins o.2.1 o.2.2.1 o.2.2.2.1 o.2.2.2.2.1 o.2.2.2.2.2 o_foundBridges o_threatPlayers o_threatRegions o_text) (va_A (wX5 C a0 a1 a2 a3 a4 a5 a6 a7 a8 a9 a10 a11 a12 a13 a14 a15 a16 o_threatCount o_textLength z0 o_game_made o_game_known o_game_stones0 o_game_stones1 o_game_list r_o_trial_board o_trial_made o_trial_known o_trial_stones0 o_trial_stones1 o_trial_list o_slots o_paths_layers o_table_count o_table_wins r_o_contest_board o_contest_from o_contest_to o_contest_spots o_contest_memo o_foundBridges o_threatPlayers o_threatRegions o_text) sz)) 0 0 (va_A (wX5 C a0 a1 a2 a3 a4 a5 a6 a7 a8 a9 a10 a11 a12 a13 a14 a15 a16 o_threatCount o_textLength z0 o_game_made o_game_known o_game_stones0 o_game_stones1 o_game_list r_o_trial_board o_trial_made o_trial_known o_trial_stones0 o_trial_stones1 o_trial_list o_slots o_paths_layers o_table_count o_table_wins r_o_contest_board o_contest_from o_contest_to o_contest_spots o_contest_memo o_foundBridges o_threatPlayers o_threatRegions o_text) sz) := by
  refine Met_ofC (by decide) ?_
  intro p e s m args below meth c hc hv
  obtain ⟨rfl, hsz, hP, hK, hD0, hO, hN0, hT0⟩ := hv
  subst hsz
  have hT : Xt tp (va_A (wX5 C a0 a1 a2 a3 a4 a5 a6 a7 a8 a9 a10 a11 a12 a13 a14 a15 a16 o_threatCount o_textLength z0 o_game_made o_game_known o_game_stones0 o_game_stones1 o_game_list r_o_trial_board o_trial_made o_trial_known o_trial_stones0 o_trial_stones1 o_trial_list o_slots o_paths_layers o_table_count o_table_wins r_o_contest_board o_contest_from o_contest_to o_contest_spots o_contest_memo o_foundBridges o_threatPlayers o_threatRegions o_text) s.heap.size) s s.heap := hT0
  have hD := hD0.self (sz := s.heap.size)
  have hN : ∀ q ∈ [cX0 z0 o_game_board_size o_game_board_cells o_game_board_all o_game_board_upper o_game_board_lower o_game_board_left o_game_board_right], ¬ va_A (wX5 C a0 a1 a2 a3 a4 a5 a6 a7 a8 a9 a10 a11 a12 a13 a14 a15 a16 o_threatCount o_textLength z0 o_game_made o_game_known o_game_stones0 o_game_stones1 o_game_list r_o_trial_board o_trial_made o_trial_known o_trial_stones0 o_trial_stones1 o_trial_list o_slots o_paths_layers o_table_count o_table_wins r_o_contest_board o_contest_from o_contest_to o_contest_spots o_contest_memo o_foundBridges o_threatPlayers o_threatRegions o_text) s.heap.size q.1 := hN0
  generalize hAe : va_A (wX5 C a0 a1 a2 a3 a4 a5 a6 a7 a8 a9 a10 a11 a12 a13 a14 a15 a16 o_threatCount o_textLength z0 o_game_made o_game_known o_game_stones0 o_game_stones1 o_game_list r_o_trial_board o_trial_made o_trial_known o_trial_stones0 o_trial_stones1 o_trial_list o_slots o_paths_layers o_table_count o_table_wins r_o_contest_board o_contest_from o_contest_to o_contest_spots o_contest_memo o_foundBridges o_threatPlayers o_threatRegions o_text) s.heap.size = A at hD hN hT ⊢
  have hA : ∀ q : Nat, s.heap.size ≤ q → A q := fun q h => by rw [← hAe]; exact Or.inr h
  have hS : va_S A s.heap s.heap [] := va_S.rf
  have hx := hc.1
  have hb := hc.2.1
  have hown := hc.2.2.2.2.1
  have hts := hc.2.2.2.2.2.1
  refine en_F rfl (fun ls hl => ?_)
  have hl : lv_has ls 13 [(0, .ref a0), (1, .int p1), (2, .int p2), (3, .int p3), (4, .long p4)] := hl
  refine lv_aload_n hx hb dX5_smallestFull_0 rfl (lv_at hl 0 rfl) ?_
  refine lv_iload_n hx hb dX5_smallestFull_1 rfl (lv_at hl 1 rfl) ?_
  refine lv_iload_n hx hb dX5_smallestFull_2 rfl (lv_at hl 2 rfl) ?_
  refine lv_iload_n hx hb dX5_smallestFull_3 rfl (lv_at hl 3 rfl) ?_
  refine lv_lload hx hb dX5_smallestFull_4 (lv_at hl 4 rfl) ?_
  refine lv_bipush (v := (6 : Int32)) hx hb dX5_smallestFull_6 (by decide) ?_
  refine rcVi (As := [.int p1, .int p2, .int p3, .long p4, .int (6 : Int32)]) (rest := []) hc k_X5_216 (c_X5_regionError l D C a0 a1 z0 a3 a5 a6 a8 a10 a13 a14 a15 o_threatCount a16 o_textLength o_game_made o_game_known a2 o_game_stones0 o_game_stones1 o_game_board_size o_game_board_cells o_game_board_all o_game_board_upper o_game_board_lower o_game_board_left o_game_board_right p1 p2 p3 p4 (6 : Int32)  _ rfl) ⟨rfl, rfl, Nat.le_of_ble_eq_true rfl, Nat.le_of_ble_eq_true rfl⟩ ((hP.app (ro_S hO hN hS)).sub [0, 1, 17] rfl) hK (q0 := 0) rfl rfl rfl hl rfl rfl (Nat.le_of_ble_eq_true rfl) ⟨Nat.zero_le _, Nat.zero_le _⟩ dX5_smallestFull_8 ?_
  refine lv_topi (fun x1 ex1 => ?_)
  have hf := jlet_t hf ex1
  refine lv_istore (lv' := [(6, .int x1), (0, .ref a0), (1, .int p1), (2, .int p2), (3, .int p3), (4, .long p4)]) hx hb dX5_smallestFull_11 hl (by decide) rfl (fun ls hl => ?_)
  refine lv_iload hx hb dX5_smallestFull_13 (lv_at hl 0 rfl) ?_
  refine lv_if_ge (tgt := 21) hx hb dX5_smallestFull_15 (by decide) (fun c2 => ?_) (fun c2 => ?_)
  · have hf := if_t hf c2
    refine lv_bipush (v := (7 : Int32)) hx hb dX5_smallestFull_21 (by decide) ?_
    refine lv_istore (lv' := [(7, .int (7 : Int32)), (6, .int x1), (0, .ref a0), (1, .int p1), (2, .int p2), (3, .int p3), (4, .long p4)]) hx hb dX5_smallestFull_23 hl (by decide) rfl (fun ls hl => ?_)
    refine lv_iconst (v := (1 : Int32)) hx hb dX5_smallestFull_25 (by decide) ?_
    refine lv_lload hx hb dX5_smallestFull_26 (lv_at hl 6 rfl) ?_
    refine rcSi (As := [.long p4]) (rest := [.int (1 : Int32)]) hc k_X5_177 (c_J13_bitCount_95d88 l D C p4  _ rfl) ⟨rfl, rfl, Nat.le_of_ble_eq_true rfl, Nat.le_of_ble_eq_true rfl⟩ (hP.sub [] rfl) hK hl rfl rfl (Nat.le_of_ble_eq_true rfl) ⟨Nat.zero_le _, Nat.zero_le _⟩ dX5_smallestFull_28 ?_
    refine lv_ishl hx hb dX5_smallestFull_31 ?_
    refine lv_istore (lv' := [(8, .int ((1 : Int32) <<< ((m_J13_bitCount_95d88 p4) &&& 31))), (7, .int (7 : Int32)), (6, .int x1), (0, .ref a0), (1, .int p1), (2, .int p2), (3, .int p3), (4, .long p4)]) hx hb dX5_smallestFull_32 hl (by decide) rfl (fun ls hl => ?_)
    refine lv_lconst (v := (0 : Int64)) hx hb dX5_smallestFull_34 (by decide) ?_
    refine lv_lstore (lv' := [(9, .long (0 : Int64)), (8, .int ((1 : Int32) <<< ((m_J13_bitCount_95d88 p4) &&& 31))), (7, .int (7 : Int32)), (6, .int x1), (0, .ref a0), (1, .int p1), (2, .int p2), (3, .int p3), (4, .long p4)]) hx hb dX5_smallestFull_35 hl (by decide) rfl (fun ls hl => ?_)
    refine lv_iconst (v := (0 : Int32)) hx hb dX5_smallestFull_37 (by decide) ?_
    refine lv_istore (lv' := [(11, .int (0 : Int32)), (9, .long (0 : Int64)), (8, .int ((1 : Int32) <<< ((m_J13_bitCount_95d88 p4) &&& 31))), (7, .int (7 : Int32)), (6, .int x1), (0, .ref a0), (1, .int p1), (2, .int p2), (3, .int p3), (4, .long p4)]) hx hb dX5_smallestFull_38 hl (by decide) rfl (fun ls hl => ?_)
    exact w_X5_smallestFull_c40 hc hK hA hO hN hT  FU (7 : Int32) ((1 : Int32) <<< ((m_J13_bitCount_95d88 p4) &&& 31)) (0 : Int64) (0 : Int32) r_o_contest_board o_contest_from o_contest_to o_contest_spots o_contest_memo hf _ _ hP hD hS ls (lv_sub hl [5, 6, 7, 8, 9, 3, 2, 1, 0] rfl)
  · have hf := if_f hf c2
    refine lv_iload hx hb dX5_smallestFull_18 (lv_at hl 0 rfl) ?_
    have hf := Option.some.inj hf
    subst hf
    exact rWi hc rfl hP hD hS dX5_smallestFull_20
abbrev R_X5_addThreat : Room := { frames := 35, cells := 0, slots := 0, locals := 1680 }
def m_X5_addThreat_c23 (z0 : Nat) (o_game_stones0 : Int64) (o_game_stones1 : Int64) (o_game_board_size : Int32) (o_game_board_cells : Int32) (o_game_board_all : Int64) (o_game_board_upper : Int64) (o_game_board_lower : Int64) (o_game_board_left : Int64) (o_game_board_right : Int64) (p1 : Int32) (p2 : Int64)  (v4 : Int32) (t0 : Int32) (o_threatCount : Int32) (r_o_contest_board : Nat) (o_contest_from : Int64) (o_contest_to : Int64) (o_contest_spots : Nat → Int64) (o_contest_memo : Nat → Int64) (o_threatPlayers : Nat → Int32) (o_threatRegions : Nat → Int64) : Option (Int32 × Int32 × Nat × Int64 × Int64 × (Nat → Int64) × (Nat → Int64) × (Nat → Int32) × (Nat → Int64)) := (jlet (m_X5_regionError o_game_stones0 o_game_stones1 o_game_board_cells o_game_board_all p1 v4 t0 p2 (8 : Int32)) fun x3 => (if 0 ≤ x3 then ((m_X5_canConnect o_game_stones0 o_game_stones1 o_contest_spots o_contest_memo o_game_board_size o_game_board_cells o_game_board_all o_game_board_upper o_game_board_lower o_game_board_left o_game_board_right p1 v4 t0 p2 (1 : Int32)).bind fun u5 => (if u5.1 = 0 then some ((-13 : Int32), o_threatCount, z0, u5.2.1, u5.2.2.1, u5.2.2.2.1, u5.2.2.2.2, o_threatPlayers, o_threatRegions) else (if o_threatCount < (6 : Int32) then (if okI o_threatCount 6 = true then (if okI o_threatCount 6 = true then some ((o_threatCount + (1 : Int32)), (o_threatCount + (1 : Int32)), z0, u5.2.1, u5.2.2.1, u5.2.2.2.1, u5.2.2.2.2, (upd o_threatPlayers o_threatCount.toNatClampNeg p1), (vp_updL o_threatRegions o_threatCount.toNatClampNeg p2)) else none) else none) else some ((-14 : Int32), o_threatCount, z0, u5.2.1, u5.2.2.1, u5.2.2.2.1, u5.2.2.2.2, o_threatPlayers, o_threatRegions)))) else some (x3, o_threatCount, r_o_contest_board, o_contest_from, o_contest_to, o_contest_spots, o_contest_memo, o_threatPlayers, o_threatRegions)))
set_option maxHeartbeats 4000000 in
set_option maxRecDepth 100000 in
theorem w_X5_addThreat_c23 {p : Program} {l : Launch} {e : Env} {s : State} {m : MethodId} {args : Array Value} {below : List Frame} {meth : Method} {c : Code} {D : va_G} {C : Nat → ClassId} {A : Nat → Prop} {tp : Nat} {a0 : Nat} {a1 : Nat} {a2 : Nat} {a3 : Nat} {a4 : Nat} {a5 : Nat} {a6 : Nat} {a7 : Nat} {a8 : Nat} {a9 : Nat} {a10 : Nat} {a11 : Nat} {a12 : Nat} {a13 : Nat} {a14 : Nat} {a15 : Nat} {a16 : Nat} {z0 : Nat} {o_textLength : Int32} {o_game_made : Int32} {o_game_known : Int32} {o_game_stones0 : Int64} {o_game_stones1 : Int64} {o_game_list : Nat → Int32} {r_o_trial_board : Nat} {o_trial_made : Int32} {o_trial_known : Int32} {o_trial_stones0 : Int64} {o_trial_stones1 : Int64} {o_trial_list : Nat → Int32} {o_slots : Nat → Option Nat} {o_paths_layers : Nat → Int64} {o_table_count : Int32} {o_table_wins : Nat → Int64} {o_foundBridges : Nat → Int32} {o_text : Nat → Int32} {o_game_board_size : Int32} {o_game_board_cells : Int32} {o_game_board_all : Int64} {o_game_board_upper : Int64} {o_game_board_lower : Int64} {o_game_board_left : Int64} {o_game_board_right : Int64} {p1 : Int32} {p2 : Int64} {o : Int32 × Int32 × Nat × Int64 × Int64 × (Nat → Int64) × (Nat → Int64) × (Nat → Int32) × (Nat → Int64)} (hc : Cx p s m args meth c yX5_addThreat cX5_addThreat 7 (some .int)) (hK : va_K D vwCl (TY C) s) (hA : ∀ q : Nat, s.heap.size ≤ q → A q) (hO : va_P D vwCl [cX0 z0 o_game_board_size o_game_board_cells o_game_board_all o_game_board_upper o_game_board_lower o_game_board_left o_game_board_right] s.heap) (hN : ∀ q ∈ [cX0 z0 o_game_board_size o_game_board_cells o_game_board_all o_game_board_upper o_game_board_lower o_game_board_left o_game_board_right], ¬ A q.1) (hT : Xt tp A s s.heap) : ∀ (v4 : Int32) (t0 : Int32) (o_threatCount : Int32) (r_o_contest_board : Nat) (o_contest_from : Int64) (o_contest_to : Int64) (o_contest_spots : Nat → Int64) (o_contest_memo : Nat → Int64) (o_threatPlayers : Nat → Int32) (o_threatRegions : Nat → Int64), m_X5_addThreat_c23 z0 o_game_stones0 o_game_stones1 o_game_board_size o_game_board_cells o_game_board_all o_game_board_upper o_game_board_lower o_game_board_left o_game_board_right p1 p2  v4 t0 o_threatCount r_o_contest_board o_contest_from o_contest_to o_contest_spots o_contest_memo o_threatPlayers o_threatRegions = some o → ∀ (H : Heap) (locs : List Loc), va_P D vwCl (wX5 C a0 a1 a2 a3 a4 a5 a6 a7 a8 a9 a10 a11 a12 a13 a14 a15 a16 o_threatCount o_textLength z0 o_game_made o_game_known o_game_stones0 o_game_stones1 o_game_list r_o_trial_board o_trial_made o_trial_known o_trial_stones0 o_trial_stones1 o_trial_list o_slots o_paths_layers o_table_count o_table_wins r_o_contest_board o_contest_from o_contest_to o_contest_spots o_contest_memo o_foundBridges o_threatPlayers o_threatRegions o_text) H → va_D A (wX5 C a0 a1 a2 a3 a4 a5 a6 a7 a8 a9 a10 a11 a12 a13 a14 a15 a16 o_threatCount o_textLength z0 o_game_made o_game_known o_game_stones0 o_game_stones1 o_game_list r_o_trial_board o_trial_made o_trial_known o_trial_stones0 o_trial_stones1 o_trial_list o_slots o_paths_layers o_table_count o_table_wins r_o_contest_board o_contest_from o_contest_to o_contest_spots o_contest_memo o_foundBridges o_threatPlayers o_threatRegions o_text) → va_S A s.heap H locs → ∀ (ls : Array Slot), lv_has ls 7 [(0, .ref a0), (1, .int p1), (2, .long p2), (4, .int v4)] → W p l e R_X5_addThreat s m args below meth c H locs 0 0 (MQ below (QWi D o.1 (wX5 C a0 a1 a2 a3 a4 a5 a6 a7 a8 a9 a10 a11 a12 a13 a14 a15 a16 o.2.1 o_textLength z0 o_game_made o_game_known o_game_stones0 o_game_stones1 o_game_list r_o_trial_board o_trial_made o_trial_known o_trial_stones0 o_trial_stones1 o_trial_list o_slots o_paths_layers o_table_count o_table_wins o.2.2.1 o.2.2.2.1 o.2.2.2.2.1 o.2.2.2.2.2.1 o.2.2.2.2.2.2.1 o_foundBridges o.2.2.2.2.2.2.2.1 o.2.2.2.2.2.2.2.2 o_text) A) args s 0 0 A) (F0 m 23 ls [.int t0]) := by
  have hx := hc.1
  have hb := hc.2.1
  have hown := hc.2.2.2.2.1
  have hts := hc.2.2.2.2.2.1
  intro v4 t0 o_threatCount r_o_contest_board o_contest_from o_contest_to o_contest_spots o_contest_memo o_threatPlayers o_threatRegions hf H locs hP hD hS ls hl
  refine lv_istore (lv' := [(5, .int t0), (0, .ref a0), (1, .int p1), (2, .long p2), (4, .int v4)]) hx hb dX5_addThreat_23 hl (by decide) rfl (fun ls hl => ?_)
  refine lv_aload_n hx hb dX5_addThreat_25 rfl (lv_at hl 1 rfl) ?_
  refine lv_iload_n hx hb dX5_addThreat_26 rfl (lv_at hl 2 rfl) ?_
  refine lv_iload hx hb dX5_addThreat_27 (lv_at hl 4 rfl) ?_
  refine lv_iload hx hb dX5_addThreat_29 (lv_at hl 0 rfl) ?_
  refine lv_lload_n hx hb dX5_addThreat_31 rfl (lv_at hl 3 rfl) ?_
  refine lv_bipush (v := (8 : Int32)) hx hb dX5_addThreat_32 (by decide) ?_
  refine rcVi (As := [.int p1, .int v4, .int t0, .long p2, .int (8 : Int32)]) (rest := []) hc k_X5_216 (c_X5_regionError l D C a0 a1 z0 a3 a5 a6 a8 a10 a13 a14 a15 o_threatCount a16 o_textLength o_game_made o_game_known a2 o_game_stones0 o_game_stones1 o_game_board_size o_game_board_cells o_game_board_all o_game_board_upper o_game_board_lower o_game_board_left o_game_board_right p1 v4 t0 p2 (8 : Int32)  _ rfl) ⟨rfl, rfl, Nat.le_of_ble_eq_true rfl, Nat.le_of_ble_eq_true rfl⟩ ((hP.app (ro_S hO hN hS)).sub [0, 1, 17] rfl) hK (q0 := 0) rfl rfl rfl hl rfl rfl (Nat.le_of_ble_eq_true rfl) ⟨Nat.zero_le _, Nat.zero_le _⟩ dX5_addThreat_34 ?_
  refine lv_topi (fun x3 ex3 => ?_)
  have hf := jlet_t hf ex3
  refine lv_istore (lv' := [(6, .int x3), (5, .int t0), (0, .ref a0), (1, .int p1), (2, .long p2), (4, .int v4)]) hx hb dX5_addThreat_37 hl (by decide) rfl (fun ls hl => ?_)
  refine lv_iload hx hb dX5_addThreat_39 (lv_at hl 0 rfl) ?_
  refine lv_if_ge (tgt := 47) hx hb dX5_addThreat_41 (by decide) (fun c4 => ?_) (fun c4 => ?_)
  · have hf := if_t hf c4
    refine lv_aload_n hx hb dX5_addThreat_47 rfl (lv_at hl 2 rfl) ?_
    refine lv_iload_n hx hb dX5_addThreat_48 rfl (lv_at hl 3 rfl) ?_
    refine lv_iload hx hb dX5_addThreat_49 (lv_at hl 5 rfl) ?_
    refine lv_iload hx hb dX5_addThreat_51 (lv_at hl 1 rfl) ?_
    refine lv_lload_n hx hb dX5_addThreat_53 rfl (lv_at hl 4 rfl) ?_
    refine lv_iconst (v := (1 : Int32)) hx hb dX5_addThreat_54 (by decide) ?_
    obtain ⟨u5, hu5, hf⟩ := bind_some hf
    refine wcViX (A := A) (wc := wX5 C a0 a1 a2 a3 a4 a5 a6 a7 a8 a9 a10 a11 a12 a13 a14 a15 a16 o_threatCount o_textLength z0 o_game_made o_game_known o_game_stones0 o_game_stones1 o_game_list r_o_trial_board o_trial_made o_trial_known o_trial_stones0 o_trial_stones1 o_trial_list o_slots o_paths_layers o_table_count o_table_wins r_o_contest_board o_contest_from o_contest_to o_contest_spots o_contest_memo o_foundBridges o_threatPlayers o_threatRegions o_text) (w1 := wX5 C a0 a1 a2 a3 a4 a5 a6 a7 a8 a9 a10 a11 a12 a13 a14 a15 a16 o_threatCount o_textLength z0 o_game_made o_game_known o_game_stones0 o_game_stones1 o_game_list r_o_trial_board o_trial_made o_trial_known o_trial_stones0 o_trial_stones1 o_trial_list o_slots o_paths_layers o_table_count o_table_wins z0 u5.2.1 u5.2.2.1 u5.2.2.2.1 u5.2.2.2.2 o_foundBridges o_threatPlayers o_threatRegions o_text) (rc := [cX0 z0 o_game_board_size o_game_board_cells o_game_board_all o_game_board_upper o_game_board_lower o_game_board_left o_game_board_right]) (As := [.int p1, .int v4, .int t0, .long p2, .int (1 : Int32)]) (rest := []) hc k_X5_220 (c_X5_canConnect l D C tp _ a0 a1 a2 a3 a4 a5 a6 a7 a8 a9 a10 a11 a12 a13 a14 a15 a16 z0 o_threatCount o_textLength o_game_made o_game_known o_game_stones0 o_game_stones1 o_game_list r_o_trial_board o_trial_made o_trial_known o_trial_stones0 o_trial_stones1 o_trial_list o_slots o_paths_layers o_table_count o_table_wins r_o_contest_board o_contest_from o_contest_to o_contest_spots o_contest_memo o_foundBridges o_threatPlayers o_threatRegions o_text o_game_board_size o_game_board_cells o_game_board_all o_game_board_upper o_game_board_lower o_game_board_left o_game_board_right p1 v4 t0 p2 (1 : Int32)  _ hu5) ⟨rfl, rfl, Nat.le_of_ble_eq_true rfl, Nat.le_of_ble_eq_true rfl⟩ hP hD hS hA hK [0, 1, 2, 3, 4, 5, 6, 7, 8, 9, 10, 11, 12, 13, 14, 15, 16] [] rfl rfl rfl rfl (by decide) ((hP.app (ro_S hO hN hS)).sub [17] rfl) (Ap_cons (fun h9 => hN _ (List.mem_of_getElem? (i := 0) rfl) (va_free (wc := wX5 C a0 a1 a2 a3 a4 a5 a6 a7 a8 a9 a10 a11 a12 a13 a14 a15 a16 o_threatCount o_textLength z0 o_game_made o_game_known o_game_stones0 o_game_stones1 o_game_list r_o_trial_board o_trial_made o_trial_known o_trial_stones0 o_trial_stones1 o_trial_list o_slots o_paths_layers o_table_count o_table_wins r_o_contest_board o_contest_from o_contest_to o_contest_spots o_contest_memo o_foundBridges o_threatPlayers o_threatRegions o_text) hD hS hA [0, 1, 2, 3, 4, 5, 6, 7, 8, 9, 10, 11, 12, 13, 14, 15, 16] rfl _ h9)) Ap_nil) hT (q0 := 0) rfl rfl rfl hl rfl rfl (Nat.le_of_ble_eq_true rfl) ⟨Nat.zero_le _, Nat.zero_le _⟩ dX5_addThreat_55 (fun H locs hP hD hS => ?_)
    have hP : va_P D vwCl (wX5 C a0 a1 a2 a3 a4 a5 a6 a7 a8 a9 a10 a11 a12 a13 a14 a15 a16 o_threatCount o_textLength z0 o_game_made o_game_known o_game_stones0 o_game_stones1 o_game_list r_o_trial_board o_trial_made o_trial_known o_trial_stones0 o_trial_stones1 o_trial_list o_slots o_paths_layers o_table_count o_table_wins z0 u5.2.1 u5.2.2.1 u5.2.2.2.1 u5.2.2.2.2 o_foundBridges o_threatPlayers o_threatRegions o_text) H := hP.sub [0, 1, 2, 3, 4, 5, 6, 7, 8, 9, 10, 11, 12, 13, 14, 15, 16] rfl
    have hD : va_D A (wX5 C a0 a1 a2 a3 a4 a5 a6 a7 a8 a9 a10 a11 a12 a13 a14 a15 a16 o_threatCount o_textLength z0 o_game_made o_game_known o_game_stones0 o_game_stones1 o_game_list r_o_trial_board o_trial_made o_trial_known o_trial_stones0 o_trial_stones1 o_trial_list o_slots o_paths_layers o_table_count o_table_wins z0 u5.2.1 u5.2.2.1 u5.2.2.2.1 u5.2.2.2.2 o_foundBridges o_threatPlayers o_threatRegions o_text) := hD.sub [0, 1, 2, 3, 4, 5, 6, 7, 8, 9, 10, 11, 12, 13, 14, 15, 16] rfl rfl
    refine lv_if_ne (tgt := 64) hx hb dX5_addThreat_58 (by decide) (fun c6 => ?_) (fun c6 => ?_)
    · have hf := if_f hf c6
      refine lv_aload_n hx hb dX5_addThreat_64 rfl (lv_at hl 2 rfl) ?_
      refine va_get (D := D) (ci := 5) (v := .int o_threatCount) (C := RX5) (T := TX5) (N := 12) hx hb hts inX5 hown hK hP 0 rfl rfl 9 (by decide) (hts _ q_146) (fun _ h9 => h9) rfl dX5_addThreat_65 ?_
      refine lv_bipush (v := (6 : Int32)) hx hb dX5_addThreat_68 (by decide) ?_
      refine lv_icmp_lt (tgt := 76) hx hb dX5_addThreat_70 (by decide) (fun c7 => ?_) (fun c7 => ?_)
      · have hf := if_t hf c7
        refine lv_aload_n hx hb dX5_addThreat_76 rfl (lv_at hl 2 rfl) ?_
        refine va_get (D := D) (ci := 5) (v := .ref a14) (C := RX5) (T := TX5) (N := 12) hx hb hts inX5 hown hK hP 0 rfl rfl 7 (by decide) (hts _ q_144) (fun _ h9 => h9) rfl dX5_addThreat_77 ?_
        refine lv_aload_n hx hb dX5_addThreat_80 rfl (lv_at hl 2 rfl) ?_
        refine va_get (D := D) (ci := 5) (v := .int o_threatCount) (C := RX5) (T := TX5) (N := 12) hx hb hts inX5 hown hK hP 0 rfl rfl 9 (by decide) (hts _ q_146) (fun _ h9 => h9) rfl dX5_addThreat_81 ?_
        refine lv_iload_n hx hb dX5_addThreat_84 rfl (lv_at hl 3 rfl) ?_
        obtain ⟨h8, hf⟩ := ok_t hf
        refine va_iast hx hb hK hP hD hS 14 0 rfl rfl (okI_in h8) dX5_addThreat_85 (fun H locs hP hD hS => ?_)
        have hP : va_P D vwCl (wX5 C a0 a1 a2 a3 a4 a5 a6 a7 a8 a9 a10 a11 a12 a13 a14 a15 a16 o_threatCount o_textLength z0 o_game_made o_game_known o_game_stones0 o_game_stones1 o_game_list r_o_trial_board o_trial_made o_trial_known o_trial_stones0 o_trial_stones1 o_trial_list o_slots o_paths_layers o_table_count o_table_wins z0 u5.2.1 u5.2.2.1 u5.2.2.2.1 u5.2.2.2.2 o_foundBridges (upd o_threatPlayers o_threatCount.toNatClampNeg p1) o_threatRegions o_text) H := hP
        have hD : va_D A (wX5 C a0 a1 a2 a3 a4 a5 a6 a7 a8 a9 a10 a11 a12 a13 a14 a15 a16 o_threatCount o_textLength z0 o_game_made o_game_known o_game_stones0 o_game_stones1 o_game_list r_o_trial_board o_trial_made o_trial_known o_trial_stones0 o_trial_stones1 o_trial_list o_slots o_paths_layers o_table_count o_table_wins z0 u5.2.1 u5.2.2.1 u5.2.2.2.1 u5.2.2.2.2 o_foundBridges (upd o_threatPlayers o_threatCount.toNatClampNeg p1) o_threatRegions o_text) := hD
        refine lv_aload_n hx hb dX5_addThreat_86 rfl (lv_at hl 2 rfl) ?_
        refine va_get (D := D) (ci := 5) (v := .ref a15) (C := RX5) (T := TX5) (N := 12) hx hb hts inX5 hown hK hP 0 rfl rfl 8 (by decide) (hts _ q_145) (fun _ h9 => h9) rfl dX5_addThreat_87 ?_
        refine lv_aload_n hx hb dX5_addThreat_90 rfl (lv_at hl 2 rfl) ?_
        refine va_get (D := D) (ci := 5) (v := .int o_threatCount) (C := RX5) (T := TX5) (N := 12) hx hb hts inX5 hown hK hP 0 rfl rfl 9 (by decide) (hts _ q_146) (fun _ h9 => h9) rfl dX5_addThreat_91 ?_
        refine lv_lload_n hx hb dX5_addThreat_94 rfl (lv_at hl 4 rfl) ?_
        obtain ⟨h9, hf⟩ := ok_t hf
        refine va_last hx hb hK hP hD hS 15 1 rfl rfl (okI_in h9) dX5_addThreat_95 (fun H locs hP hD hS => ?_)
        have hP : va_P D vwCl (wX5 C a0 a1 a2 a3 a4 a5 a6 a7 a8 a9 a10 a11 a12 a13 a14 a15 a16 o_threatCount o_textLength z0 o_game_made o_game_known o_game_stones0 o_game_stones1 o_game_list r_o_trial_board o_trial_made o_trial_known o_trial_stones0 o_trial_stones1 o_trial_list o_slots o_paths_layers o_table_count o_table_wins z0 u5.2.1 u5.2.2.1 u5.2.2.2.1 u5.2.2.2.2 o_foundBridges (upd o_threatPlayers o_threatCount.toNatClampNeg p1) (vp_updL o_threatRegions o_threatCount.toNatClampNeg p2) o_text) H := hP
        have hD : va_D A (wX5 C a0 a1 a2 a3 a4 a5 a6 a7 a8 a9 a10 a11 a12 a13 a14 a15 a16 o_threatCount o_textLength z0 o_game_made o_game_known o_game_stones0 o_game_stones1 o_game_list r_o_trial_board o_trial_made o_trial_known o_trial_stones0 o_trial_stones1 o_trial_list o_slots o_paths_layers o_table_count o_table_wins z0 u5.2.1 u5.2.2.1 u5.2.2.2.1 u5.2.2.2.2 o_foundBridges (upd o_threatPlayers o_threatCount.toNatClampNeg p1) (vp_updL o_threatRegions o_threatCount.toNatClampNeg p2) o_text) := hD
        refine lv_aload_n hx hb dX5_addThreat_96 rfl (lv_at hl 2 rfl) ?_
        refine lv_dup hx hb dX5_addThreat_97 rfl ?_
        refine va_get (D := D) (ci := 5) (v := .int o_threatCount) (C := RX5) (T := TX5) (N := 12) hx hb hts inX5 hown hK hP 0 rfl rfl 9 (by decide) (hts _ q_146) (fun _ h9 => h9) rfl dX5_addThreat_98 ?_
        refine lv_iconst (v := (1 : Int32)) hx hb dX5_addThreat_101 (by decide) ?_
        refine lv_iadd hx hb dX5_addThreat_102 ?_
        refine va_put (D := D) (ci := 5) (v := .int (o_threatCount + (1 : Int32))) (ty := .int) (C := RX5) (T := TX5) (N := 12) hx hb hts inX5 tyX5 tyX5_ok nmX5 hown hK hP hD hS 0 rfl rfl 9 (by decide) (hts _ q_146) (fun _ h9 => h9) rfl (by decide +kernel) rfl rfl (Nat.le_of_ble_eq_true rfl) dX5_addThreat_103 (fun H locs hP hD hS => ?_)
        have hP : va_P D vwCl (wX5 C a0 a1 a2 a3 a4 a5 a6 a7 a8 a9 a10 a11 a12 a13 a14 a15 a16 (o_threatCount + (1 : Int32)) o_textLength z0 o_game_made o_game_known o_game_stones0 o_game_stones1 o_game_list r_o_trial_board o_trial_made o_trial_known o_trial_stones0 o_trial_stones1 o_trial_list o_slots o_paths_layers o_table_count o_table_wins z0 u5.2.1 u5.2.2.1 u5.2.2.2.1 u5.2.2.2.2 o_foundBridges (upd o_threatPlayers o_threatCount.toNatClampNeg p1) (vp_updL o_threatRegions o_threatCount.toNatClampNeg p2) o_text) H := hP
        have hD : va_D A (wX5 C a0 a1 a2 a3 a4 a5 a6 a7 a8 a9 a10 a11 a12 a13 a14 a15 a16 (o_threatCount + (1 : Int32)) o_textLength z0 o_game_made o_game_known o_game_stones0 o_game_stones1 o_game_list r_o_trial_board o_trial_made o_trial_known o_trial_stones0 o_trial_stones1 o_trial_list o_slots o_paths_layers o_table_count o_table_wins z0 u5.2.1 u5.2.2.1 u5.2.2.2.1 u5.2.2.2.2 o_foundBridges (upd o_threatPlayers o_threatCount.toNatClampNeg p1) (vp_updL o_threatRegions o_threatCount.toNatClampNeg p2) o_text) := hD
        refine lv_aload_n hx hb dX5_addThreat_106 rfl (lv_at hl 2 rfl) ?_
        refine va_get (D := D) (ci := 5) (v := .int (o_threatCount + (1 : Int32))) (C := RX5) (T := TX5) (N := 12) hx hb hts inX5 hown hK hP 0 rfl rfl 9 (by decide) (hts _ q_146) (fun _ h9 => h9) rfl dX5_addThreat_107 ?_
        have hf := Option.some.inj hf
        subst hf
        exact rWi hc rfl hP hD hS dX5_addThreat_110
      · have hf := if_f hf c7
        refine lv_bipush (v := (-14 : Int32)) hx hb dX5_addThreat_73 (by decide) ?_
        have hf := Option.some.inj hf
        subst hf
        exact rWi hc rfl hP hD hS dX5_addThreat_75
    · have hf := if_t hf c6
      refine lv_bipush (v := (-13 : Int32)) hx hb dX5_addThreat_61 (by decide) ?_
      have hf := Option.some.inj hf
      subst hf
      exact rWi hc rfl hP hD hS dX5_addThreat_63
  · have hf := if_f hf c4
    refine lv_iload hx hb dX5_addThreat_44 (lv_at hl 0 rfl) ?_
    have hf := Option.some.inj hf
    subst hf
    exact rWi hc rfl hP hD hS dX5_addThreat_46
def m_X5_addThreat_c10 (z0 : Nat) (o_game_stones0 : Int64) (o_game_stones1 : Int64) (o_game_board_size : Int32) (o_game_board_cells : Int32) (o_game_board_all : Int64) (o_game_board_upper : Int64) (o_game_board_lower : Int64) (o_game_board_left : Int64) (o_game_board_right : Int64) (p1 : Int32) (p2 : Int64)  (t0 : Int32) (o_threatCount : Int32) (r_o_contest_board : Nat) (o_contest_from : Int64) (o_contest_to : Int64) (o_contest_spots : Nat → Int64) (o_contest_memo : Nat → Int64) (o_threatPlayers : Nat → Int32) (o_threatRegions : Nat → Int64) : Option (Int32 × Int32 × Nat × Int64 × Int64 × (Nat → Int64) × (Nat → Int64) × (Nat → Int32) × (Nat → Int64)) := (if p1 = 0 then (m_X5_addThreat_c23 z0 o_game_stones0 o_game_stones1 o_game_board_size o_game_board_cells o_game_board_all o_game_board_upper o_game_board_lower o_game_board_left o_game_board_right p1 p2 t0 (-2 : Int32) o_threatCount r_o_contest_board o_contest_from o_contest_to o_contest_spots o_contest_memo o_threatPlayers o_threatRegions) else (m_X5_addThreat_c23 z0 o_game_stones0 o_game_stones1 o_game_board_size o_game_board_cells o_game_board_all o_game_board_upper o_game_board_lower o_game_board_left o_game_board_right p1 p2 t0 (-4 : Int32) o_threatCount r_o_contest_board o_contest_from o_contest_to o_contest_spots o_contest_memo o_threatPlayers o_threatRegions))
set_option maxHeartbeats 4000000 in
set_option maxRecDepth 100000 in
theorem w_X5_addThreat_c10 {p : Program} {l : Launch} {e : Env} {s : State} {m : MethodId} {args : Array Value} {below : List Frame} {meth : Method} {c : Code} {D : va_G} {C : Nat → ClassId} {A : Nat → Prop} {tp : Nat} {a0 : Nat} {a1 : Nat} {a2 : Nat} {a3 : Nat} {a4 : Nat} {a5 : Nat} {a6 : Nat} {a7 : Nat} {a8 : Nat} {a9 : Nat} {a10 : Nat} {a11 : Nat} {a12 : Nat} {a13 : Nat} {a14 : Nat} {a15 : Nat} {a16 : Nat} {z0 : Nat} {o_textLength : Int32} {o_game_made : Int32} {o_game_known : Int32} {o_game_stones0 : Int64} {o_game_stones1 : Int64} {o_game_list : Nat → Int32} {r_o_trial_board : Nat} {o_trial_made : Int32} {o_trial_known : Int32} {o_trial_stones0 : Int64} {o_trial_stones1 : Int64} {o_trial_list : Nat → Int32} {o_slots : Nat → Option Nat} {o_paths_layers : Nat → Int64} {o_table_count : Int32} {o_table_wins : Nat → Int64} {o_foundBridges : Nat → Int32} {o_text : Nat → Int32} {o_game_board_size : Int32} {o_game_board_cells : Int32} {o_game_board_all : Int64} {o_game_board_upper : Int64} {o_game_board_lower : Int64} {o_game_board_left : Int64} {o_game_board_right : Int64} {p1 : Int32} {p2 : Int64} {o : Int32 × Int32 × Nat × Int64 × Int64 × (Nat → Int64) × (Nat → Int64) × (Nat → Int32) × (Nat → Int64)} (hc : Cx p s m args meth c yX5_addThreat cX5_addThreat 7 (some .int)) (hK : va_K D vwCl (TY C) s) (hA : ∀ q : Nat, s.heap.size ≤ q → A q) (hO : va_P D vwCl [cX0 z0 o_game_board_size o_game_board_cells o_game_board_all o_game_board_upper o_game_board_lower o_game_board_left o_game_board_right] s.heap) (hN : ∀ q ∈ [cX0 z0 o_game_board_size o_game_board_cells o_game_board_all o_game_board_upper o_game_board_lower o_game_board_left o_game_board_right], ¬ A q.1) (hT : Xt tp A s s.heap) : ∀ (t0 : Int32) (o_threatCount : Int32) (r_o_contest_board : Nat) (o_contest_from : Int64) (o_contest_to : Int64) (o_contest_spots : Nat → Int64) (o_contest_memo : Nat → Int64) (o_threatPlayers : Nat → Int32) (o_threatRegions : Nat → Int64), m_X5_addThreat_c10 z0 o_game_stones0 o_game_stones1 o_game_board_size o_game_board_cells o_game_board_all o_game_board_upper o_game_board_lower o_game_board_left o_game_board_right p1 p2  t0 o_threatCount r_o_contest_board o_contest_from o_contest_to o_contest_spots o_contest_memo o_threatPlayers o_threatRegions = some o → ∀ (H : Heap) (locs : List Loc), va_P D vwCl (wX5 C a0 a1 a2 a3 a4 a5 a6 a7 a8 a9 a10 a11 a12 a13 a14 a15 a16 o_threatCount o_textLength z0 o_game_made o_game_known o_game_stones0 o_game_stones1 o_game_list r_o_trial_board o_trial_made o_trial_known o_trial_stones0 o_trial_stones1 o_trial_list o_slots o_paths_layers o_table_count o_table_wins r_o_contest_board o_contest_from o_contest_to o_contest_spots o_contest_memo o_foundBridges o_threatPlayers o_threatRegions o_text) H → va_D A (wX5 C a0 a1 a2 a3 a4 a5 a6 a7 a8 a9 a10 a11 a12 a13 a14 a15 a16 o_threatCount o_textLength z0 o_game_made o_game_known o_game_stones0 o_game_stones1 o_game_list r_o_trial_board o_trial_made o_trial_known o_trial_stones0 o_trial_stones1 o_trial_list o_slots o_paths_layers o_table_count o_table_wins r_o_contest_board o_contest_from o_contest_to o_contest_spots o_contest_memo o_foundBridges o_threatPlayers o_threatRegions o_text) → va_S A s.heap H locs → ∀ (ls : Array Slot), lv_has ls 7 [(0, .ref a0), (1, .int p1), (2, .long p2)] → W p l e R_X5_addThreat s m args below meth c H locs 0 0 (MQ below (QWi D o.1 (wX5 C a0 a1 a2 a3 a4 a5 a6 a7 a8 a9 a10 a11 a12 a13 a14 a15 a16 o.2.1 o_textLength z0 o_game_made o_game_known o_game_stones0 o_game_stones1 o_game_list r_o_trial_board o_trial_made o_trial_known o_trial_stones0 o_trial_stones1 o_trial_list o_slots o_paths_layers o_table_count o_table_wins o.2.2.1 o.2.2.2.1 o.2.2.2.2.1 o.2.2.2.2.2.1 o.2.2.2.2.2.2.1 o_foundBridges o.2.2.2.2.2.2.2.1 o.2.2.2.2.2.2.2.2 o_text) A) args s 0 0 A) (F0 m 10 ls [.int t0]) := by
  have hx := hc.1
  have hb := hc.2.1
  have hown := hc.2.2.2.2.1
  have hts := hc.2.2.2.2.2.1
  intro t0 o_threatCount r_o_contest_board o_contest_from o_contest_to o_contest_spots o_contest_memo o_threatPlayers o_threatRegions hf H locs hP hD hS ls hl
  refine lv_istore (lv' := [(4, .int t0), (0, .ref a0), (1, .int p1), (2, .long p2)]) hx hb dX5_addThreat_10 hl (by decide) rfl (fun ls hl => ?_)
  refine lv_iload_n hx hb dX5_addThreat_12 rfl (lv_at hl 2 rfl) ?_
  refine lv_if_ne (tgt := 21) hx hb dX5_addThreat_13 (by decide) (fun c2 => ?_) (fun c2 => ?_)
  · have hf := if_f hf c2
    refine lv_bipush (v := (-4 : Int32)) hx hb dX5_addThreat_21 (by decide) ?_
    exact w_X5_addThreat_c23 hc hK hA hO hN hT  t0 (-4 : Int32) o_threatCount r_o_contest_board o_contest_from o_contest_to o_contest_spots o_contest_memo o_threatPlayers o_threatRegions hf _ _ hP hD hS ls (lv_sub hl [1, 2, 3, 0] rfl)
  · have hf := if_t hf c2
    refine lv_bipush (v := (-2 : Int32)) hx hb dX5_addThreat_16 (by decide) ?_
    refine lv_goto (tgt := 23) hx hb dX5_addThreat_18 (by decide) ?_
    exact w_X5_addThreat_c23 hc hK hA hO hN hT  t0 (-2 : Int32) o_threatCount r_o_contest_board o_contest_from o_contest_to o_contest_spots o_contest_memo o_threatPlayers o_threatRegions hf _ _ hP hD hS ls (lv_sub hl [1, 2, 3, 0] rfl)
def m_X5_addThreat (z0 : Nat) (o_threatCount : Int32) (o_game_stones0 : Int64) (o_game_stones1 : Int64) (r_o_contest_board : Nat) (o_contest_from : Int64) (o_contest_to : Int64) (o_contest_spots : Nat → Int64) (o_contest_memo : Nat → Int64) (o_threatPlayers : Nat → Int32) (o_threatRegions : Nat → Int64) (o_game_board_size : Int32) (o_game_board_cells : Int32) (o_game_board_all : Int64) (o_game_board_upper : Int64) (o_game_board_lower : Int64) (o_game_board_left : Int64) (o_game_board_right : Int64) (p1 : Int32) (p2 : Int64) : Option (Int32 × Int32 × Nat × Int64 × Int64 × (Nat → Int64) × (Nat → Int64) × (Nat → Int32) × (Nat → Int64)) := (if p1 = 0 then (m_X5_addThreat_c10 z0 o_game_stones0 o_game_stones1 o_game_board_size o_game_board_cells o_game_board_all o_game_board_upper o_game_board_lower o_game_board_left o_game_board_right p1 p2 (-1 : Int32) o_threatCount r_o_contest_board o_contest_from o_contest_to o_contest_spots o_contest_memo o_threatPlayers o_threatRegions) else (m_X5_addThreat_c10 z0 o_game_stones0 o_game_stones1 o_game_board_size o_game_board_cells o_game_board_all o_game_board_upper o_game_board_lower o_game_board_left o_game_board_right p1 p2 (-3 : Int32) o_threatCount r_o_contest_board o_contest_from o_contest_to o_contest_spots o_contest_memo o_threatPlayers o_threatRegions))
set_option maxHeartbeats 4000000 in
set_option maxRecDepth 100000 in
theorem c_X5_addThreat (l : Launch) (D : va_G) (C : Nat → ClassId) (tp : Nat) (sz : Nat) (a0 : Nat) (a1 : Nat) (a2 : Nat) (a3 : Nat) (a4 : Nat) (a5 : Nat) (a6 : Nat) (a7 : Nat) (a8 : Nat) (a9 : Nat) (a10 : Nat) (a11 : Nat) (a12 : Nat) (a13 : Nat) (a14 : Nat) (a15 : Nat) (a16 : Nat) (z0 : Nat) (o_threatCount : Int32) (o_textLength : Int32) (o_game_made : Int32) (o_game_known : Int32) (o_game_stones0 : Int64) (o_game_stones1 : Int64) (o_game_list : Nat → Int32) (r_o_trial_board : Nat) (o_trial_made : Int32) (o_trial_known : Int32) (o_trial_stones0 : Int64) (o_trial_stones1 : Int64) (o_trial_list : Nat → Int32) (o_slots : Nat → Option Nat) (o_paths_layers : Nat → Int64) (o_table_count : Int32) (o_table_wins : Nat → Int64) (r_o_contest_board : Nat) (o_contest_from : Int64) (o_contest_to : Int64) (o_contest_spots : Nat → Int64) (o_contest_memo : Nat → Int64) (o_foundBridges : Nat → Int32) (o_threatPlayers : Nat → Int32) (o_threatRegions : Nat → Int64) (o_text : Nat → Int32) (o_game_board_size : Int32) (o_game_board_cells : Int32) (o_game_board_all : Int64) (o_game_board_upper : Int64) (o_game_board_lower : Int64) (o_game_board_left : Int64) (o_game_board_right : Int64) (p1 : Int32) (p2 : Int64) (o : Int32 × Int32 × Nat × Int64 × Int64 × (Nat → Int64) × (Nat → Int64) × (Nat → Int32) × (Nat → Int64)) (hf : m_X5_addThreat z0 o_threatCount o_game_stones0 o_game_stones1 r_o_contest_board o_contest_from o_contest_to o_contest_spots o_contest_memo o_threatPlayers o_threatRegions o_game_board_size o_game_board_cells o_game_board_all o_game_board_upper o_game_board_lower o_game_board_left o_game_board_right p1 p2 = some o) : Met l yX5_addThreat (wl yX5_addThreat cX5_addThreat 7 (some .int)) R_X5_addThreat (PWX [.ref a0, .int p1, .long p2] D C tp sz (wX5 C a0 a1 a2 a3 a4 a5 a6 a7 a8 a9 a10 a11 a12 a13 a14 a15 a16 o_threatCount o_textLength z0 o_game_made o_game_known o_game_stones0 o_game_stones1 o_game_list r_o_trial_board o_trial_made o_trial_known o_trial_stones0 o_trial_stones1 o_trial_list o_slots o_paths_layers o_table_count o_table_wins r_o_contest_board o_contest_from o_contest_to o_contest_spots o_contest_memo o_foundBridges o_threatPlayers o_threatRegions o_text) [cX0 z0 o_game_board_size o_game_board_cells o_game_board_all o_game_board_upper o_game_board_lower o_game_board_left o_game_board_right]) (QWi D o.1 (wX5 C a0 a1 a2 a3 a4 a5 a6 a7 a8 a9 a10 a11 a12 a13 a14 a15 a16 o.2.1 o_textLength z0 o_game_made o_game_known o_game_stones0 o_game_stones1 o_game_list r_o_trial_board o_trial_made o_trial_known o_trial_stones0 o_trial_stones1 o_trial_list o_slots o_paths_layers o_table_count o_table_wins o.2.2.1 o.2.2.2.1 o.2.2.2.2.1 o.2.2.2.2.2.1 o.2.2.2.2.2.2.1 o_foundBridges o.2.2.2.2.2.2.2.1 o.2.2.2.2.2.2.2.2 o_text) (va_A (wX5 C a0 a1 a2 a3 a4 a5 a6 a7 a8 a9 a10 a11 a12 a13 a14 a15 a16 o_threatCount o_textLength z0 o_game_made o_game_known o_game_stones0 o_game_stones1 o_game_list r_o_trial_board o_trial_made o_trial_known o_trial_stones0 o_trial_stones1 o_trial_list o_slots o_paths_layers o_table_count o_table_wins r_o_contest_board o_contest_from o_contest_to o_contest_spots o_contest_memo o_foundBridges o_threatPlayers o_threatRegions o_text) sz)) 0 0 (va_A (wX5 C a0 a1 a2 a3 a4 a5 a6 a7 a8 a9 a10 a11 a12 a13 a14 a15 a16 o_threatCount o_textLength z0 o_game_made o_game_known o_game_stones0 o_game_stones1 o_game_list r_o_trial_board o_trial_made o_trial_known o_trial_stones0 o_trial_stones1 o_trial_list o_slots o_paths_layers o_table_count o_table_wins r_o_contest_board o_contest_from o_contest_to o_contest_spots o_contest_memo o_foundBridges o_threatPlayers o_threatRegions o_text) sz) := by
  refine Met_ofC (by decide) ?_
  intro p e s m args below meth c hc hv
  obtain ⟨rfl, hsz, hP, hK, hD0, hO, hN0, hT0⟩ := hv
  subst hsz
  have hT : Xt tp (va_A (wX5 C a0 a1 a2 a3 a4 a5 a6 a7 a8 a9 a10 a11 a12 a13 a14 a15 a16 o_threatCount o_textLength z0 o_game_made o_game_known o_game_stones0 o_game_stones1 o_game_list r_o_trial_board o_trial_made o_trial_known o_trial_stones0 o_trial_stones1 o_trial_list o_slots o_paths_layers o_table_count o_table_wins r_o_contest_board o_contest_from o_contest_to o_contest_spots o_contest_memo o_foundBridges o_threatPlayers o_threatRegions o_text) s.heap.size) s s.heap := hT0
  have hD := hD0.self (sz := s.heap.size)
  have hN : ∀ q ∈ [cX0 z0 o_game_board_size o_game_board_cells o_game_board_all o_game_board_upper o_game_board_lower o_game_board_left o_game_board_right], ¬ va_A (wX5 C a0 a1 a2 a3 a4 a5 a6 a7 a8 a9 a10 a11 a12 a13 a14 a15 a16 o_threatCount o_textLength z0 o_game_made o_game_known o_game_stones0 o_game_stones1 o_game_list r_o_trial_board o_trial_made o_trial_known o_trial_stones0 o_trial_stones1 o_trial_list o_slots o_paths_layers o_table_count o_table_wins r_o_contest_board o_contest_from o_contest_to o_contest_spots o_contest_memo o_foundBridges o_threatPlayers o_threatRegions o_text) s.heap.size q.1 := hN0
  generalize hAe : va_A (wX5 C a0 a1 a2 a3 a4 a5 a6 a7 a8 a9 a10 a11 a12 a13 a14 a15 a16 o_threatCount o_textLength z0 o_game_made o_game_known o_game_stones0 o_game_stones1 o_game_list r_o_trial_board o_trial_made o_trial_known o_trial_stones0 o_trial_stones1 o_trial_list o_slots o_paths_layers o_table_count o_table_wins r_o_contest_board o_contest_from o_contest_to o_contest_spots o_contest_memo o_foundBridges o_threatPlayers o_threatRegions o_text) s.heap.size = A at hD hN hT ⊢
  have hA : ∀ q : Nat, s.heap.size ≤ q → A q := fun q h => by rw [← hAe]; exact Or.inr h
  have hS : va_S A s.heap s.heap [] := va_S.rf
  have hx := hc.1
  have hb := hc.2.1
  have hown := hc.2.2.2.2.1
  have hts := hc.2.2.2.2.2.1
  refine en_F rfl (fun ls hl => ?_)
  have hl : lv_has ls 7 [(0, .ref a0), (1, .int p1), (2, .long p2)] := hl
  refine lv_iload_n hx hb dX5_addThreat_0 rfl (lv_at hl 1 rfl) ?_
  refine lv_if_ne (tgt := 8) hx hb dX5_addThreat_1 (by decide) (fun c1 => ?_) (fun c1 => ?_)
  · have hf := if_f hf c1
    refine lv_bipush (v := (-3 : Int32)) hx hb dX5_addThreat_8 (by decide) ?_
    exact w_X5_addThreat_c10 hc hK hA hO hN hT  (-3 : Int32) o_threatCount r_o_contest_board o_contest_from o_contest_to o_contest_spots o_contest_memo o_threatPlayers o_threatRegions hf _ _ hP hD hS ls (lv_sub hl [0, 1, 2] rfl)
  · have hf := if_t hf c1
    refine lv_iconst (v := (-1 : Int32)) hx hb dX5_addThreat_4 (by decide) ?_
    refine lv_goto (tgt := 10) hx hb dX5_addThreat_5 (by decide) ?_
    exact w_X5_addThreat_c10 hc hK hA hO hN hT  (-1 : Int32) o_threatCount r_o_contest_board o_contest_from o_contest_to o_contest_spots o_contest_memo o_threatPlayers o_threatRegions hf _ _ hP hD hS ls (lv_sub hl [0, 1, 2] rfl)
abbrev R_X5_clearThreats : Room := { frames := 0, cells := 0, slots := 0, locals := 0 }
def m_X5_clearThreats (o_threatCount : Int32) : Int32 × Int32 := (o_threatCount, (0 : Int32))
set_option maxHeartbeats 4000000 in
set_option maxRecDepth 100000 in
theorem c_X5_clearThreats (l : Launch) (D : va_G) (C : Nat → ClassId) (sz : Nat) (a0 : Nat) (a1 : Nat) (a2 : Nat) (a3 : Nat) (a4 : Nat) (a5 : Nat) (a6 : Nat) (a7 : Nat) (a8 : Nat) (a9 : Nat) (a10 : Nat) (a11 : Nat) (a12 : Nat) (a13 : Nat) (a14 : Nat) (a15 : Nat) (a16 : Nat) (o_threatCount : Int32) (o_textLength : Int32) (r_o_game_board : Nat) (o_game_made : Int32) (o_game_known : Int32) (o_game_stones0 : Int64) (o_game_stones1 : Int64) (o_game_list : Nat → Int32) (r_o_trial_board : Nat) (o_trial_made : Int32) (o_trial_known : Int32) (o_trial_stones0 : Int64) (o_trial_stones1 : Int64) (o_trial_list : Nat → Int32) (o_slots : Nat → Option Nat) (o_paths_layers : Nat → Int64) (o_table_count : Int32) (o_table_wins : Nat → Int64) (r_o_contest_board : Nat) (o_contest_from : Int64) (o_contest_to : Int64) (o_contest_spots : Nat → Int64) (o_contest_memo : Nat → Int64) (o_foundBridges : Nat → Int32) (o_threatPlayers : Nat → Int32) (o_threatRegions : Nat → Int64) (o_text : Nat → Int32) (o : Int32 × Int32) (hf : m_X5_clearThreats o_threatCount = o) : Met l yX5_clearThreats (wl yX5_clearThreats cX5_clearThreats 2 (some .int)) R_X5_clearThreats (PW [.ref a0] D C sz (wX5 C a0 a1 a2 a3 a4 a5 a6 a7 a8 a9 a10 a11 a12 a13 a14 a15 a16 o_threatCount o_textLength r_o_game_board o_game_made o_game_known o_game_stones0 o_game_stones1 o_game_list r_o_trial_board o_trial_made o_trial_known o_trial_stones0 o_trial_stones1 o_trial_list o_slots o_paths_layers o_table_count o_table_wins r_o_contest_board o_contest_from o_contest_to o_contest_spots o_contest_memo o_foundBridges o_threatPlayers o_threatRegions o_text) ([] : va_W)) (QWi D o.1 (wX5 C a0 a1 a2 a3 a4 a5 a6 a7 a8 a9 a10 a11 a12 a13 a14 a15 a16 o.2 o_textLength r_o_game_board o_game_made o_game_known o_game_stones0 o_game_stones1 o_game_list r_o_trial_board o_trial_made o_trial_known o_trial_stones0 o_trial_stones1 o_trial_list o_slots o_paths_layers o_table_count o_table_wins r_o_contest_board o_contest_from o_contest_to o_contest_spots o_contest_memo o_foundBridges o_threatPlayers o_threatRegions o_text) (va_A (wX5 C a0 a1 a2 a3 a4 a5 a6 a7 a8 a9 a10 a11 a12 a13 a14 a15 a16 o_threatCount o_textLength r_o_game_board o_game_made o_game_known o_game_stones0 o_game_stones1 o_game_list r_o_trial_board o_trial_made o_trial_known o_trial_stones0 o_trial_stones1 o_trial_list o_slots o_paths_layers o_table_count o_table_wins r_o_contest_board o_contest_from o_contest_to o_contest_spots o_contest_memo o_foundBridges o_threatPlayers o_threatRegions o_text) sz)) 0 0 (va_A (wX5 C a0 a1 a2 a3 a4 a5 a6 a7 a8 a9 a10 a11 a12 a13 a14 a15 a16 o_threatCount o_textLength r_o_game_board o_game_made o_game_known o_game_stones0 o_game_stones1 o_game_list r_o_trial_board o_trial_made o_trial_known o_trial_stones0 o_trial_stones1 o_trial_list o_slots o_paths_layers o_table_count o_table_wins r_o_contest_board o_contest_from o_contest_to o_contest_spots o_contest_memo o_foundBridges o_threatPlayers o_threatRegions o_text) sz) := by
  refine Met_ofC (by decide) ?_
  intro p e s m args below meth c hc hv
  obtain ⟨rfl, hsz, hP, hK, hD0, hO, hN0⟩ := hv
  subst hsz
  have hN : ∀ q ∈ ([] : va_W), ¬ va_A (wX5 C a0 a1 a2 a3 a4 a5 a6 a7 a8 a9 a10 a11 a12 a13 a14 a15 a16 o_threatCount o_textLength r_o_game_board o_game_made o_game_known o_game_stones0 o_game_stones1 o_game_list r_o_trial_board o_trial_made o_trial_known o_trial_stones0 o_trial_stones1 o_trial_list o_slots o_paths_layers o_table_count o_table_wins r_o_contest_board o_contest_from o_contest_to o_contest_spots o_contest_memo o_foundBridges o_threatPlayers o_threatRegions o_text) s.heap.size q.1 := hN0
  generalize hAe : va_A (wX5 C a0 a1 a2 a3 a4 a5 a6 a7 a8 a9 a10 a11 a12 a13 a14 a15 a16 o_threatCount o_textLength r_o_game_board o_game_made o_game_known o_game_stones0 o_game_stones1 o_game_list r_o_trial_board o_trial_made o_trial_known o_trial_stones0 o_trial_stones1 o_trial_list o_slots o_paths_layers o_table_count o_table_wins r_o_contest_board o_contest_from o_contest_to o_contest_spots o_contest_memo o_foundBridges o_threatPlayers o_threatRegions o_text) s.heap.size = A at hD hN ⊢
  have hA : ∀ q : Nat, s.heap.size ≤ q → A q := fun q h => by rw [← hAe]; exact Or.inr h
  have hS : va_S A s.heap s.heap [] := va_S.rf
  have hx := hc.1
  have hb := hc.2.1
  have hown := hc.2.2.2.2.1
  have hts := hc.2.2.2.2.2.1
  refine en_F rfl (fun ls hl => ?_)
  have hl : lv_has ls 2 [(0, .ref a0)] := hl
  refine lv_aload_n hx hb dX5_clearThreats_0 rfl (lv_at hl 0 rfl) ?_
  refine va_get (D := D) (ci := 5) (v := .int o_threatCount) (C := RX5) (T := TX5) (N := 12) hx hb hts inX5 hown hK hP 0 rfl rfl 9 (by decide) (hts _ q_146) (fun _ h9 => h9) rfl dX5_clearThreats_1 ?_
  refine lv_istore_n (lv' := [(1, .int o_threatCount), (0, .ref a0)]) hx hb dX5_clearThreats_4 rfl hl (by decide) rfl (fun ls hl => ?_)
  refine lv_aload_n hx hb dX5_clearThreats_5 rfl (lv_at hl 1 rfl) ?_
  refine lv_iconst (v := (0 : Int32)) hx hb dX5_clearThreats_6 (by decide) ?_
  refine va_put (D := D) (ci := 5) (v := .int (0 : Int32)) (ty := .int) (C := RX5) (T := TX5) (N := 12) hx hb hts inX5 tyX5 tyX5_ok nmX5 hown hK hP hD hS 0 rfl rfl 9 (by decide) (hts _ q_146) (fun _ h9 => h9) rfl (by decide +kernel) rfl rfl (Nat.le_of_ble_eq_true rfl) dX5_clearThreats_7 (fun H locs hP hD hS => ?_)
  have hP : va_P D vwCl (wX5 C a0 a1 a2 a3 a4 a5 a6 a7 a8 a9 a10 a11 a12 a13 a14 a15 a16 (0 : Int32) o_textLength r_o_game_board o_game_made o_game_known o_game_stones0 o_game_stones1 o_game_list r_o_trial_board o_trial_made o_trial_known o_trial_stones0 o_trial_stones1 o_trial_list o_slots o_paths_layers o_table_count o_table_wins r_o_contest_board o_contest_from o_contest_to o_contest_spots o_contest_memo o_foundBridges o_threatPlayers o_threatRegions o_text) H := hP
  have hD : va_D A (wX5 C a0 a1 a2 a3 a4 a5 a6 a7 a8 a9 a10 a11 a12 a13 a14 a15 a16 (0 : Int32) o_textLength r_o_game_board o_game_made o_game_known o_game_stones0 o_game_stones1 o_game_list r_o_trial_board o_trial_made o_trial_known o_trial_stones0 o_trial_stones1 o_trial_list o_slots o_paths_layers o_table_count o_table_wins r_o_contest_board o_contest_from o_contest_to o_contest_spots o_contest_memo o_foundBridges o_threatPlayers o_threatRegions o_text) := hD
  refine lv_iload_n hx hb dX5_clearThreats_10 rfl (lv_at hl 0 rfl) ?_
  subst hf
  exact rWi hc rfl hP hD hS dX5_clearThreats_11
abbrev R_X5_isValidThreat : Room := { frames := 1, cells := 0, slots := 0, locals := 21 }
def m_X5_isValidThreat (o_threatCount : Int32) (o_threatPlayers : Nat → Int32) (o_threatRegions : Nat → Int64) (o_game_stones0 : Int64) (o_game_stones1 : Int64) (p1 : Int32) (p2 : Int32) : Option (Int32) := (if p1 < 0 then some (0 : Int32) else (if o_threatCount ≤ p1 then some (0 : Int32) else (if (6 : Int32) ≤ p1 then some (0 : Int32) else (if okI p1 6 = true then (if (o_threatPlayers p1.toNatClampNeg) = p2 then (if okI p1 6 = true then (if ((o_threatRegions p1.toNatClampNeg) &&& (m_X3_stonesOf o_game_stones0 o_game_stones1 ((1 : Int32) - p2))) = (0 : Int64) then some (1 : Int32) else some (0 : Int32)) else none) else some (0 : Int32)) else none))))
set_option maxHeartbeats 4000000 in
set_option maxRecDepth 100000 in
theorem c_X5_isValidThreat (l : Launch) (D : va_G) (C : Nat → ClassId) (z0 : Nat) (z1 : Nat) (z2 : Nat) (z3 : Nat) (r_o_trial : Nat) (r_o_slots : Nat) (r_o_paths : Nat) (r_o_table : Nat) (r_o_contest : Nat) (r_o_foundBridges : Nat) (o_threatCount : Int32) (r_o_text : Nat) (o_textLength : Int32) (o_threatPlayers : Nat → Int32) (o_threatRegions : Nat → Int64) (r_o_game_board : Nat) (o_game_made : Int32) (o_game_known : Int32) (r_o_game_list : Nat) (o_game_stones0 : Int64) (o_game_stones1 : Int64) (p1 : Int32) (p2 : Int32) (o : Int32) (hf : m_X5_isValidThreat o_threatCount o_threatPlayers o_threatRegions o_game_stones0 o_game_stones1 p1 p2 = some o) : Met l yX5_isValidThreat (wl yX5_isValidThreat cX5_isValidThreat 3 (some .boolean)) R_X5_isValidThreat (PR [.ref z0, .int p1, .int p2] D C [cX5 z0 z3 r_o_trial r_o_slots r_o_paths r_o_table r_o_contest r_o_foundBridges z1 z2 o_threatCount r_o_text o_textLength, aI C z1 6 o_threatPlayers, aJ C z2 6 o_threatRegions, cX3 z3 r_o_game_board o_game_made o_game_known r_o_game_list o_game_stones0 o_game_stones1]) (vp_Si (fun r => r = o)) 0 0 (fun _ => False) := by
  refine Met_ofC (by decide) ?_
  intro p e s m args below meth c hc hv
  obtain ⟨rfl, hP, hK⟩ := hv
  have hx := hc.1
  have hb := hc.2.1
  have hown := hc.2.2.2.2.1
  have hts := hc.2.2.2.2.2.1
  refine en_F rfl (fun ls hl => ?_)
  have hl : lv_has ls 3 [(0, .ref z0), (1, .int p1), (2, .int p2)] := hl
  refine lv_iload_n hx hb dX5_isValidThreat_0 rfl (lv_at hl 1 rfl) ?_
  refine lv_if_lt (tgt := 54) hx hb dX5_isValidThreat_1 (by decide) (fun c1 => ?_) (fun c1 => ?_)
  · have hf := if_t hf c1
    refine lv_iconst (v := (0 : Int32)) hx hb dX5_isValidThreat_54 (by decide) ?_
    exact rRz hc rfl (Option.some.inj hf) dX5_isValidThreat_55
  · have hf := if_f hf c1
    refine lv_iload_n hx hb dX5_isValidThreat_4 rfl (lv_at hl 1 rfl) ?_
    refine lv_aload_n hx hb dX5_isValidThreat_5 rfl (lv_at hl 0 rfl) ?_
    refine va_get (D := D) (ci := 5) (v := .int o_threatCount) (C := RX5) (T := TX5) (N := 12) hx hb hts inX5 hown hK hP 0 rfl rfl 9 (by decide) (hts _ q_146) (fun _ h9 => h9) rfl dX5_isValidThreat_6 ?_
    refine lv_icmp_ge (tgt := 54) hx hb dX5_isValidThreat_9 (by decide) (fun c2 => ?_) (fun c2 => ?_)
    · have hf := if_t hf c2
      refine lv_iconst (v := (0 : Int32)) hx hb dX5_isValidThreat_54 (by decide) ?_
      exact rRz hc rfl (Option.some.inj hf) dX5_isValidThreat_55
    · have hf := if_f hf c2
      refine lv_iload_n hx hb dX5_isValidThreat_12 rfl (lv_at hl 1 rfl) ?_
      refine lv_bipush (v := (6 : Int32)) hx hb dX5_isValidThreat_13 (by decide) ?_
      refine lv_icmp_ge (tgt := 54) hx hb dX5_isValidThreat_15 (by decide) (fun c3 => ?_) (fun c3 => ?_)
      · have hf := if_t hf c3
        refine lv_iconst (v := (0 : Int32)) hx hb dX5_isValidThreat_54 (by decide) ?_
        exact rRz hc rfl (Option.some.inj hf) dX5_isValidThreat_55
      · have hf := if_f hf c3
        refine lv_aload_n hx hb dX5_isValidThreat_18 rfl (lv_at hl 0 rfl) ?_
        refine va_get (D := D) (ci := 5) (v := .ref z1) (C := RX5) (T := TX5) (N := 12) hx hb hts inX5 hown hK hP 0 rfl rfl 7 (by decide) (hts _ q_144) (fun _ h9 => h9) rfl dX5_isValidThreat_19 ?_
        refine lv_iload_n hx hb dX5_isValidThreat_22 rfl (lv_at hl 1 rfl) ?_
        obtain ⟨h4, hf⟩ := ok_t hf
        refine va_iald hx hb hK hP 1 0 rfl rfl (okI_in h4) dX5_isValidThreat_23 ?_
        refine lv_iload_n hx hb dX5_isValidThreat_24 rfl (lv_at hl 2 rfl) ?_
        refine lv_icmp_ne (tgt := 54) hx hb dX5_isValidThreat_25 (by decide) (fun c5 => ?_) (fun c5 => ?_)
        · have hf := if_f hf c5
          refine lv_iconst (v := (0 : Int32)) hx hb dX5_isValidThreat_54 (by decide) ?_
          exact rRz hc rfl (Option.some.inj hf) dX5_isValidThreat_55
        · have hf := if_t hf c5
          refine lv_aload_n hx hb dX5_isValidThreat_28 rfl (lv_at hl 0 rfl) ?_
          refine va_get (D := D) (ci := 5) (v := .ref z2) (C := RX5) (T := TX5) (N := 12) hx hb hts inX5 hown hK hP 0 rfl rfl 8 (by decide) (hts _ q_145) (fun _ h9 => h9) rfl dX5_isValidThreat_29 ?_
          refine lv_iload_n hx hb dX5_isValidThreat_32 rfl (lv_at hl 1 rfl) ?_
          obtain ⟨h6, hf⟩ := ok_t hf
          refine va_lald hx hb hK hP 2 1 rfl rfl (okI_in h6) dX5_isValidThreat_33 ?_
          refine lv_aload_n hx hb dX5_isValidThreat_34 rfl (lv_at hl 0 rfl) ?_
          refine va_get (D := D) (ci := 5) (v := .ref z3) (C := RX5) (T := TX5) (N := 12) hx hb hts inX5 hown hK hP 0 rfl rfl 0 (by decide) (hts _ q_137) (fun _ h9 => h9) rfl dX5_isValidThreat_35 ?_
          refine lv_iconst (v := (1 : Int32)) hx hb dX5_isValidThreat_38 (by decide) ?_
          refine lv_iload_n hx hb dX5_isValidThreat_39 rfl (lv_at hl 2 rfl) ?_
          refine lv_isub hx hb dX5_isValidThreat_40 ?_
          refine rcVl (As := [.int ((1 : Int32) - p2)]) (rest := [.long (o_threatRegions p1.toNatClampNeg)]) hc k_X5_101 (c_X3_stonesOf l D C z3 r_o_game_board o_game_made o_game_known r_o_game_list o_game_stones0 o_game_stones1 ((1 : Int32) - p2)  _ rfl) ⟨rfl, rfl, Nat.le_of_ble_eq_true rfl, Nat.le_of_ble_eq_true rfl⟩ (hP.sub [3] rfl) hK (q0 := 0) rfl rfl rfl hl rfl rfl (Nat.le_of_ble_eq_true rfl) ⟨Nat.zero_le _, Nat.zero_le _⟩ dX5_isValidThreat_41 ?_
          refine lv_land hx hb dX5_isValidThreat_44 ?_
          refine lv_lconst (v := (0 : Int64)) hx hb dX5_isValidThreat_45 (by decide) ?_
          refine lc_ne (tgt := 54) hx hb dX5_isValidThreat_46 dX5_isValidThreat_47 (by decide) (fun c7 => ?_) (fun c7 => ?_)
          · have hf := if_f hf c7
            refine lv_iconst (v := (0 : Int32)) hx hb dX5_isValidThreat_54 (by decide) ?_
            exact rRz hc rfl (Option.some.inj hf) dX5_isValidThreat_55
          · have hf := if_t hf c7
            refine lv_iconst (v := (1 : Int32)) hx hb dX5_isValidThreat_50 (by decide) ?_
            refine lv_goto (tgt := 55) hx hb dX5_isValidThreat_51 (by decide) ?_
            exact rRz hc rfl (Option.some.inj hf) dX5_isValidThreat_55
abbrev R_X5_threats : Room := { frames := 2, cells := 0, slots := 0, locals := 43 }
def m_X5_threats_c32  (k14 : Int32 → Int32 → Option (Int32)) (v2 : Int32) (v3 : Int32) : Option (Int32) := (k14 v2 (v3 + (1 : Int32)))
set_option maxHeartbeats 4000000 in
set_option maxRecDepth 100000 in
theorem w_X5_threats_c32 {p : Program} {l : Launch} {e : Env} {s : State} {m : MethodId} {args : Array Value} {below : List Frame} {meth : Method} {c : Code} {D : va_G} {C : Nat → ClassId} {z0 : Nat} {z1 : Nat} {z2 : Nat} {z3 : Nat} {r_o_trial : Nat} {r_o_slots : Nat} {r_o_paths : Nat} {r_o_table : Nat} {r_o_contest : Nat} {r_o_foundBridges : Nat} {o_threatCount : Int32} {r_o_text : Nat} {o_textLength : Int32} {o_threatPlayers : Nat → Int32} {o_threatRegions : Nat → Int64} {r_o_game_board : Nat} {o_game_made : Int32} {o_game_known : Int32} {r_o_game_list : Nat} {o_game_stones0 : Int64} {o_game_stones1 : Int64} {p1 : Int32} {o : Int32} (hc : Cx p s m args meth c yX5_threats cX5_threats 4 (some .int)) (hK : va_K D vwCl (TY C) s) (hP : va_P D vwCl [cX5 z0 z3 r_o_trial r_o_slots r_o_paths r_o_table r_o_contest r_o_foundBridges z1 z2 o_threatCount r_o_text o_textLength, aI C z1 6 o_threatPlayers, aJ C z2 6 o_threatRegions, cX3 z3 r_o_game_board o_game_made o_game_known r_o_game_list o_game_stones0 o_game_stones1] s.heap) (k14 : Int32 → Int32 → Option (Int32)) (hk14 : ∀ (v2 : Int32) (v3 : Int32), k14 v2 v3 = some o → ∀ (ls : Array Slot), lv_has ls 4 [(0, .ref z0), (1, .int p1), (2, .int v2), (3, .int v3)] → W p l e R_X5_threats s m args below meth c s.heap [] 0 0 (MQ below (vp_Si (fun r => r = o)) args s 0 0 (fun _ => False)) (F0 m 14 ls [])) : ∀ (v2 : Int32) (v3 : Int32), m_X5_threats_c32  k14 v2 v3 = some o → ∀ (ls : Array Slot), lv_has ls 4 [(0, .ref z0), (1, .int p1), (2, .int v2), (3, .int v3)] → W p l e R_X5_threats s m args below meth c s.heap [] 0 0 (MQ below (vp_Si (fun r => r = o)) args s 0 0 (fun _ => False)) (F0 m 32 ls []) := by
  have hx := hc.1
  have hb := hc.2.1
  have hown := hc.2.2.2.2.1
  have hts := hc.2.2.2.2.2.1
  intro v2 v3 hf ls hl
  refine lv_iinc (v := (v3 + (1 : Int32))) (lv' := [(3, .int (v3 + (1 : Int32))), (0, .ref z0), (1, .int p1), (2, .int v2)]) hx hb dX5_threats_32 hl (k := 3) rfl rfl (by decide) rfl (fun ls hl => ?_)
  refine lv_goto (tgt := 14) hx hb dX5_threats_35 (by decide) ?_
  exact hk14 v2 (v3 + (1 : Int32)) hf ls (lv_sub hl [1, 2, 3, 0] rfl)
def m_X5_threats_c14 (o_threatCount : Int32) (o_threatPlayers : Nat → Int32) (o_threatRegions : Nat → Int64) (o_game_stones0 : Int64) (o_game_stones1 : Int64) (p1 : Int32)  : Nat → Int32 → Int32 → Option (Int32)
  | 0, _, _ => none
  | n + 1, v2, v3 => (if (6 : Int32) ≤ v3 then some v2 else ((m_X5_isValidThreat o_threatCount o_threatPlayers o_threatRegions o_game_stones0 o_game_stones1 v3 p1).bind fun u3 => (if u3 = 0 then (m_X5_threats_c32 (m_X5_threats_c14 o_threatCount o_threatPlayers o_threatRegions o_game_stones0 o_game_stones1 p1  n) v2 v3) else (m_X5_threats_c32 (m_X5_threats_c14 o_threatCount o_threatPlayers o_threatRegions o_game_stones0 o_game_stones1 p1  n) (v2 + (1 : Int32)) v3))))
set_option maxHeartbeats 4000000 in
set_option maxRecDepth 100000 in
theorem w_X5_threats_c14 {p : Program} {l : Launch} {e : Env} {s : State} {m : MethodId} {args : Array Value} {below : List Frame} {meth : Method} {c : Code} {D : va_G} {C : Nat → ClassId} {z0 : Nat} {z1 : Nat} {z2 : Nat} {z3 : Nat} {r_o_trial : Nat} {r_o_slots : Nat} {r_o_paths : Nat} {r_o_table : Nat} {r_o_contest : Nat} {r_o_foundBridges : Nat} {o_threatCount : Int32} {r_o_text : Nat} {o_textLength : Int32} {o_threatPlayers : Nat → Int32} {o_threatRegions : Nat → Int64} {r_o_game_board : Nat} {o_game_made : Int32} {o_game_known : Int32} {r_o_game_list : Nat} {o_game_stones0 : Int64} {o_game_stones1 : Int64} {p1 : Int32} {o : Int32} (hc : Cx p s m args meth c yX5_threats cX5_threats 4 (some .int)) (hK : va_K D vwCl (TY C) s) (hP : va_P D vwCl [cX5 z0 z3 r_o_trial r_o_slots r_o_paths r_o_table r_o_contest r_o_foundBridges z1 z2 o_threatCount r_o_text o_textLength, aI C z1 6 o_threatPlayers, aJ C z2 6 o_threatRegions, cX3 z3 r_o_game_board o_game_made o_game_known r_o_game_list o_game_stones0 o_game_stones1] s.heap) : ∀ (n : Nat), ∀ (v2 : Int32) (v3 : Int32), m_X5_threats_c14 o_threatCount o_threatPlayers o_threatRegions o_game_stones0 o_game_stones1 p1  n v2 v3 = some o → ∀ (ls : Array Slot), lv_has ls 4 [(0, .ref z0), (1, .int p1), (2, .int v2), (3, .int v3)] → W p l e R_X5_threats s m args below meth c s.heap [] 0 0 (MQ below (vp_Si (fun r => r = o)) args s 0 0 (fun _ => False)) (F0 m 14 ls []) := by
  have hx := hc.1
  have hb := hc.2.1
  have hown := hc.2.2.2.2.1
  have hts := hc.2.2.2.2.2.1
  intro n
  induction n with
  | zero =>
    intro v2 v3 hf
    exact no_some hf
  | succ n ih =>
    intro v2 v3 hf ls hl
    refine lv_iload_n hx hb dX5_threats_14 rfl (lv_at hl 3 rfl) ?_
    refine lv_bipush (v := (6 : Int32)) hx hb dX5_threats_15 (by decide) ?_
    refine lv_icmp_ge (tgt := 38) hx hb dX5_threats_17 (by decide) (fun c2 => ?_) (fun c2 => ?_)
    · have hf := if_t hf c2
      refine lv_iload_n hx hb dX5_threats_38 rfl (lv_at hl 2 rfl) ?_
      exact rRi hc (Option.some.inj hf) dX5_threats_39
    · have hf := if_f hf c2
      refine lv_aload_n hx hb dX5_threats_20 rfl (lv_at hl 0 rfl) ?_
      refine lv_iload_n hx hb dX5_threats_21 rfl (lv_at hl 3 rfl) ?_
      refine lv_iload_n hx hb dX5_threats_22 rfl (lv_at hl 1 rfl) ?_
      obtain ⟨u3, hu3, hf⟩ := bind_some hf
      refine rcVi (As := [.int v3, .int p1]) (rest := []) hc k_X5_227 (c_X5_isValidThreat l D C z0 z1 z2 z3 r_o_trial r_o_slots r_o_paths r_o_table r_o_contest r_o_foundBridges o_threatCount r_o_text o_textLength o_threatPlayers o_threatRegions r_o_game_board o_game_made o_game_known r_o_game_list o_game_stones0 o_game_stones1 v3 p1  _ hu3) ⟨rfl, rfl, Nat.le_of_ble_eq_true rfl, Nat.le_of_ble_eq_true rfl⟩ (hP.sub [0, 1, 2, 3] rfl) hK (q0 := 0) rfl rfl rfl hl rfl rfl (Nat.le_of_ble_eq_true rfl) ⟨Nat.zero_le _, Nat.zero_le _⟩ dX5_threats_23 ?_
      refine lv_if_eq (tgt := 32) hx hb dX5_threats_26 (by decide) (fun c4 => ?_) (fun c4 => ?_)
      · have hf := if_t hf c4
        exact w_X5_threats_c32 hc hK hP (m_X5_threats_c14 o_threatCount o_threatPlayers o_threatRegions o_game_stones0 o_game_stones1 p1  n) ih v2 v3 hf ls (lv_sub hl [0, 1, 2, 3] rfl)
      · have hf := if_f hf c4
        refine lv_iinc (v := (v2 + (1 : Int32))) (lv' := [(2, .int (v2 + (1 : Int32))), (0, .ref z0), (1, .int p1), (3, .int v3)]) hx hb dX5_threats_29 hl (k := 2) rfl rfl (by decide) rfl (fun ls hl => ?_)
        exact w_X5_threats_c32 hc hK hP (m_X5_threats_c14 o_threatCount o_threatPlayers o_threatRegions o_game_stones0 o_game_stones1 p1  n) ih (v2 + (1 : Int32)) v3 hf ls (lv_sub hl [1, 2, 0, 3] rfl)
def m_X5_threats (o_threatCount : Int32) (o_threatPlayers : Nat → Int32) (o_threatRegions : Nat → Int64) (o_game_stones0 : Int64) (o_game_stones1 : Int64) (p1 : Int32) : Option (Int32) := (if (m_X5_isPlayer p1) = 0 then some (-11 : Int32) else (m_X5_threats_c14 o_threatCount o_threatPlayers o_threatRegions o_game_stones0 o_game_stones1 p1 FU (0 : Int32) (0 : Int32)))
set_option maxHeartbeats 4000000 in
set_option maxRecDepth 100000 in
theorem c_X5_threats (l : Launch) (D : va_G) (C : Nat → ClassId) (z0 : Nat) (z1 : Nat) (z2 : Nat) (z3 : Nat) (r_o_trial : Nat) (r_o_slots : Nat) (r_o_paths : Nat) (r_o_table : Nat) (r_o_contest : Nat) (r_o_foundBridges : Nat) (o_threatCount : Int32) (r_o_text : Nat) (o_textLength : Int32) (o_threatPlayers : Nat → Int32) (o_threatRegions : Nat → Int64) (r_o_game_board : Nat) (o_game_made : Int32) (o_game_known : Int32) (r_o_game_list : Nat) (o_game_stones0 : Int64) (o_game_stones1 : Int64) (p1 : Int32) (o : Int32) (hf : m_X5_threats o_threatCount o_threatPlayers o_threatRegions o_game_stones0 o_game_stones1 p1 = some o) : Met l yX5_threats (wl yX5_threats cX5_threats 4 (some .int)) R_X5_threats (PR [.ref z0, .int p1] D C [cX5 z0 z3 r_o_trial r_o_slots r_o_paths r_o_table r_o_contest r_o_foundBridges z1 z2 o_threatCount r_o_text o_textLength, aI C z1 6 o_threatPlayers, aJ C z2 6 o_threatRegions, cX3 z3 r_o_game_board o_game_made o_game_known r_o_game_list o_game_stones0 o_game_stones1]) (vp_Si (fun r => r = o)) 0 0 (fun _ => False) := by
  refine Met_ofC (by decide) ?_
  intro p e s m args below meth c hc hv
  obtain ⟨rfl, hP, hK⟩ := hv
  have hx := hc.1
  have hb := hc.2.1
  have hown := hc.2.2.2.2.1
  have hts := hc.2.2.2.2.2.1
  refine en_F rfl (fun ls hl => ?_)
  have hl : lv_has ls 4 [(0, .ref z0), (1, .int p1)] := hl
  refine lv_iload_n hx hb dX5_threats_0 rfl (lv_at hl 1 rfl) ?_
  refine rcSi (As := [.int p1]) (rest := []) hc k_X5_125 (c_X5_isPlayer l D C p1  _ rfl) ⟨rfl, rfl, Nat.le_of_ble_eq_true rfl, Nat.le_of_ble_eq_true rfl⟩ (hP.sub [] rfl) hK hl rfl rfl (Nat.le_of_ble_eq_true rfl) ⟨Nat.zero_le _, Nat.zero_le _⟩ dX5_threats_1 ?_
  refine lv_if_ne (tgt := 10) hx hb dX5_threats_4 (by decide) (fun c1 => ?_) (fun c1 => ?_)
  · have hf := if_f hf c1
    refine lv_iconst (v := (0 : Int32)) hx hb dX5_threats_10 (by decide) ?_
    refine lv_istore_n (lv' := [(2, .int (0 : Int32)), (0, .ref z0), (1, .int p1)]) hx hb dX5_threats_11 rfl hl (by decide) rfl (fun ls hl => ?_)
    refine lv_iconst (v := (0 : Int32)) hx hb dX5_threats_12 (by decide) ?_
    refine lv_istore_n (lv' := [(3, .int (0 : Int32)), (2, .int (0 : Int32)), (0, .ref z0), (1, .int p1)]) hx hb dX5_threats_13 rfl hl (by decide) rfl (fun ls hl => ?_)
    exact w_X5_threats_c14 hc hK hP  FU (0 : Int32) (0 : Int32) hf ls (lv_sub hl [2, 3, 1, 0] rfl)
  · have hf := if_t hf c1
    refine lv_bipush (v := (-11 : Int32)) hx hb dX5_threats_7 (by decide) ?_
    exact rRi hc (Option.some.inj hf) dX5_threats_9
abbrev R_X5_needed : Room := { frames := 2, cells := 0, slots := 0, locals := 43 }
def m_X5_needed_c53  (k24 : Int32 → Int64 → Int32 → Option (Int64)) (v2 : Int32) (v3 : Int64) (v5 : Int32) : Option (Int64) := (k24 v2 v3 (v5 + (1 : Int32)))
set_option maxHeartbeats 4000000 in
set_option maxRecDepth 100000 in
theorem w_X5_needed_c53 {p : Program} {l : Launch} {e : Env} {s : State} {m : MethodId} {args : Array Value} {below : List Frame} {meth : Method} {c : Code} {D : va_G} {C : Nat → ClassId} {z0 : Nat} {z1 : Nat} {z2 : Nat} {z3 : Nat} {z4 : Nat} {r_o_trial : Nat} {r_o_slots : Nat} {r_o_paths : Nat} {r_o_table : Nat} {r_o_contest : Nat} {r_o_foundBridges : Nat} {o_threatCount : Int32} {r_o_text : Nat} {o_textLength : Int32} {o_game_made : Int32} {o_game_known : Int32} {r_o_game_list : Nat} {o_game_stones0 : Int64} {o_game_stones1 : Int64} {o_game_board_size : Int32} {o_game_board_cells : Int32} {o_game_board_all : Int64} {o_game_board_upper : Int64} {o_game_board_lower : Int64} {o_game_board_left : Int64} {o_game_board_right : Int64} {o_threatPlayers : Nat → Int32} {o_threatRegions : Nat → Int64} {p1 : Int32} {o : Int64} (hc : Cx p s m args meth c yX5_needed cX5_needed 6 (some .long)) (hK : va_K D vwCl (TY C) s) (hP : va_P D vwCl [cX5 z0 z1 r_o_trial r_o_slots r_o_paths r_o_table r_o_contest r_o_foundBridges z3 z4 o_threatCount r_o_text o_textLength, cX3 z1 z2 o_game_made o_game_known r_o_game_list o_game_stones0 o_game_stones1, cX0 z2 o_game_board_size o_game_board_cells o_game_board_all o_game_board_upper o_game_board_lower o_game_board_left o_game_board_right, aI C z3 6 o_threatPlayers, aJ C z4 6 o_threatRegions] s.heap) (k24 : Int32 → Int64 → Int32 → Option (Int64)) (hk24 : ∀ (v2 : Int32) (v3 : Int64) (v5 : Int32), k24 v2 v3 v5 = some o → ∀ (ls : Array Slot), lv_has ls 6 [(0, .ref z0), (1, .int p1), (2, .int v2), (3, .long v3), (5, .int v5)] → W p l e R_X5_needed s m args below meth c s.heap [] 0 0 (MQ below (vp_Sl (fun r => r = o)) args s 0 0 (fun _ => False)) (F0 m 24 ls [])) : ∀ (v2 : Int32) (v3 : Int64) (v5 : Int32), m_X5_needed_c53  k24 v2 v3 v5 = some o → ∀ (ls : Array Slot), lv_has ls 6 [(0, .ref z0), (1, .int p1), (2, .int v2), (3, .long v3), (5, .int v5)] → W p l e R_X5_needed s m args below meth c s.heap [] 0 0 (MQ below (vp_Sl (fun r => r = o)) args s 0 0 (fun _ => False)) (F0 m 53 ls []) := by
  have hx := hc.1
  have hb := hc.2.1
  have hown := hc.2.2.2.2.1
  have hts := hc.2.2.2.2.2.1
  intro v2 v3 v5 hf ls hl
  refine lv_iinc (v := (v5 + (1 : Int32))) (lv' := [(5, .int (v5 + (1 : Int32))), (0, .ref z0), (1, .int p1), (2, .int v2), (3, .long v3)]) hx hb dX5_needed_53 hl (k := 4) rfl rfl (by decide) rfl (fun ls hl => ?_)
  refine lv_goto (tgt := 24) hx hb dX5_needed_56 (by decide) ?_
  exact hk24 v2 v3 (v5 + (1 : Int32)) hf ls (lv_sub hl [1, 2, 3, 4, 0] rfl)
def m_X5_needed_c24 (o_threatCount : Int32) (o_game_stones0 : Int64) (o_game_stones1 : Int64) (o_threatPlayers : Nat → Int32) (o_threatRegions : Nat → Int64) (p1 : Int32)  : Nat → Int32 → Int64 → Int32 → Option (Int64)
  | 0, _, _, _ => none
  | n + 1, v2, v3, v5 => (if (6 : Int32) ≤ v5 then (if v2 = 0 then some (-15 : Int64) else some v3) else ((m_X5_isValidThreat o_threatCount o_threatPlayers o_threatRegions o_game_stones0 o_game_stones1 v5 p1).bind fun u4 => (if u4 = 0 then (m_X5_needed_c53 (m_X5_needed_c24 o_threatCount o_game_stones0 o_game_stones1 o_threatPlayers o_threatRegions p1  n) v2 v3 v5) else (if okI v5 6 = true then (m_X5_needed_c53 (m_X5_needed_c24 o_threatCount o_game_stones0 o_game_stones1 o_threatPlayers o_threatRegions p1  n) (1 : Int32) (v3 &&& (o_threatRegions v5.toNatClampNeg)) v5) else none))))
set_option maxHeartbeats 4000000 in
set_option maxRecDepth 100000 in
theorem w_X5_needed_c24 {p : Program} {l : Launch} {e : Env} {s : State} {m : MethodId} {args : Array Value} {below : List Frame} {meth : Method} {c : Code} {D : va_G} {C : Nat → ClassId} {z0 : Nat} {z1 : Nat} {z2 : Nat} {z3 : Nat} {z4 : Nat} {r_o_trial : Nat} {r_o_slots : Nat} {r_o_paths : Nat} {r_o_table : Nat} {r_o_contest : Nat} {r_o_foundBridges : Nat} {o_threatCount : Int32} {r_o_text : Nat} {o_textLength : Int32} {o_game_made : Int32} {o_game_known : Int32} {r_o_game_list : Nat} {o_game_stones0 : Int64} {o_game_stones1 : Int64} {o_game_board_size : Int32} {o_game_board_cells : Int32} {o_game_board_all : Int64} {o_game_board_upper : Int64} {o_game_board_lower : Int64} {o_game_board_left : Int64} {o_game_board_right : Int64} {o_threatPlayers : Nat → Int32} {o_threatRegions : Nat → Int64} {p1 : Int32} {o : Int64} (hc : Cx p s m args meth c yX5_needed cX5_needed 6 (some .long)) (hK : va_K D vwCl (TY C) s) (hP : va_P D vwCl [cX5 z0 z1 r_o_trial r_o_slots r_o_paths r_o_table r_o_contest r_o_foundBridges z3 z4 o_threatCount r_o_text o_textLength, cX3 z1 z2 o_game_made o_game_known r_o_game_list o_game_stones0 o_game_stones1, cX0 z2 o_game_board_size o_game_board_cells o_game_board_all o_game_board_upper o_game_board_lower o_game_board_left o_game_board_right, aI C z3 6 o_threatPlayers, aJ C z4 6 o_threatRegions] s.heap) : ∀ (n : Nat), ∀ (v2 : Int32) (v3 : Int64) (v5 : Int32), m_X5_needed_c24 o_threatCount o_game_stones0 o_game_stones1 o_threatPlayers o_threatRegions p1  n v2 v3 v5 = some o → ∀ (ls : Array Slot), lv_has ls 6 [(0, .ref z0), (1, .int p1), (2, .int v2), (3, .long v3), (5, .int v5)] → W p l e R_X5_needed s m args below meth c s.heap [] 0 0 (MQ below (vp_Sl (fun r => r = o)) args s 0 0 (fun _ => False)) (F0 m 24 ls []) := by
  have hx := hc.1
  have hb := hc.2.1
  have hown := hc.2.2.2.2.1
  have hts := hc.2.2.2.2.2.1
  intro n
  induction n with
  | zero =>
    intro v2 v3 v5 hf
    exact no_some hf
  | succ n ih =>
    intro v2 v3 v5 hf ls hl
    refine lv_iload hx hb dX5_needed_24 (lv_at hl 4 rfl) ?_
    refine lv_bipush (v := (6 : Int32)) hx hb dX5_needed_26 (by decide) ?_
    refine lv_icmp_ge (tgt := 59) hx hb dX5_needed_28 (by decide) (fun c2 => ?_) (fun c2 => ?_)
    · have hf := if_t hf c2
      refine lv_iload_n hx hb dX5_needed_59 rfl (lv_at hl 2 rfl) ?_
      refine lv_if_eq (tgt := 67) hx hb dX5_needed_60 (by decide) (fun c3 => ?_) (fun c3 => ?_)
      · have hf := if_t hf c3
        refine lv_ldc2 (v := (-15 : Int64)) hx hb hown (hts _ q_557) dX5_needed_67 ?_
        exact rRl hc (Option.some.inj hf) dX5_needed_70
      · have hf := if_f hf c3
        refine lv_lload_n hx hb dX5_needed_63 rfl (lv_at hl 3 rfl) ?_
        refine lv_goto (tgt := 70) hx hb dX5_needed_64 (by decide) ?_
        exact rRl hc (Option.some.inj hf) dX5_needed_70
    · have hf := if_f hf c2
      refine lv_aload_n hx hb dX5_needed_31 rfl (lv_at hl 0 rfl) ?_
      refine lv_iload hx hb dX5_needed_32 (lv_at hl 4 rfl) ?_
      refine lv_iload_n hx hb dX5_needed_34 rfl (lv_at hl 1 rfl) ?_
      obtain ⟨u4, hu4, hf⟩ := bind_some hf
      refine rcVi (As := [.int v5, .int p1]) (rest := []) hc k_X5_227 (c_X5_isValidThreat l D C z0 z3 z4 z1 r_o_trial r_o_slots r_o_paths r_o_table r_o_contest r_o_foundBridges o_threatCount r_o_text o_textLength o_threatPlayers o_threatRegions z2 o_game_made o_game_known r_o_game_list o_game_stones0 o_game_stones1 v5 p1  _ hu4) ⟨rfl, rfl, Nat.le_of_ble_eq_true rfl, Nat.le_of_ble_eq_true rfl⟩ (hP.sub [0, 3, 4, 1] rfl) hK (q0 := 0) rfl rfl rfl hl rfl rfl (Nat.le_of_ble_eq_true rfl) ⟨Nat.zero_le _, Nat.zero_le _⟩ dX5_needed_35 ?_
      refine lv_if_eq (tgt := 53) hx hb dX5_needed_38 (by decide) (fun c5 => ?_) (fun c5 => ?_)
      · have hf := if_t hf c5
        exact w_X5_needed_c53 hc hK hP (m_X5_needed_c24 o_threatCount o_game_stones0 o_game_stones1 o_threatPlayers o_threatRegions p1  n) ih v2 v3 v5 hf ls (lv_sub hl [0, 1, 2, 3, 4] rfl)
      · have hf := if_f hf c5
        refine lv_iconst (v := (1 : Int32)) hx hb dX5_needed_41 (by decide) ?_
        refine lv_istore_n (lv' := [(2, .int (1 : Int32)), (0, .ref z0), (1, .int p1), (3, .long v3), (5, .int v5)]) hx hb dX5_needed_42 rfl hl (by decide) rfl (fun ls hl => ?_)
        refine lv_lload_n hx hb dX5_needed_43 rfl (lv_at hl 3 rfl) ?_
        refine lv_aload_n hx hb dX5_needed_44 rfl (lv_at hl 1 rfl) ?_
        refine va_get (D := D) (ci := 5) (v := .ref z4) (C := RX5) (T := TX5) (N := 12) hx hb hts inX5 hown hK hP 0 rfl rfl 8 (by decide) (hts _ q_145) (fun _ h9 => h9) rfl dX5_needed_45 ?_
        refine lv_iload hx hb dX5_needed_48 (lv_at hl 4 rfl) ?_
        obtain ⟨h6, hf⟩ := ok_t hf
        refine va_lald hx hb hK hP 4 1 rfl rfl (okI_in h6) dX5_needed_50 ?_
        refine lv_land hx hb dX5_needed_51 ?_
        refine lv_lstore_n (lv' := [(3, .long (v3 &&& (o_threatRegions v5.toNatClampNeg))), (2, .int (1 : Int32)), (0, .ref z0), (1, .int p1), (5, .int v5)]) hx hb dX5_needed_52 rfl hl (by decide) rfl (fun ls hl => ?_)
        exact w_X5_needed_c53 hc hK hP (m_X5_needed_c24 o_threatCount o_game_stones0 o_game_stones1 o_threatPlayers o_threatRegions p1  n) ih (1 : Int32) (v3 &&& (o_threatRegions v5.toNatClampNeg)) v5 hf ls (lv_sub hl [2, 3, 1, 0, 4] rfl)
def m_X5_needed (o_threatCount : Int32) (o_game_stones0 : Int64) (o_game_stones1 : Int64) (o_game_board_all : Int64) (o_threatPlayers : Nat → Int32) (o_threatRegions : Nat → Int64) (p1 : Int32) : Option (Int64) := (if (m_X5_isPlayer p1) = 0 then some (-11 : Int64) else (m_X5_needed_c24 o_threatCount o_game_stones0 o_game_stones1 o_threatPlayers o_threatRegions p1 FU (0 : Int32) (m_X3_free o_game_stones0 o_game_stones1 o_game_board_all) (0 : Int32)))
set_option maxHeartbeats 4000000 in
set_option maxRecDepth 100000 in
theorem c_X5_needed (l : Launch) (D : va_G) (C : Nat → ClassId) (z0 : Nat) (z1 : Nat) (z2 : Nat) (z3 : Nat) (z4 : Nat) (r_o_trial : Nat) (r_o_slots : Nat) (r_o_paths : Nat) (r_o_table : Nat) (r_o_contest : Nat) (r_o_foundBridges : Nat) (o_threatCount : Int32) (r_o_text : Nat) (o_textLength : Int32) (o_game_made : Int32) (o_game_known : Int32) (r_o_game_list : Nat) (o_game_stones0 : Int64) (o_game_stones1 : Int64) (o_game_board_size : Int32) (o_game_board_cells : Int32) (o_game_board_all : Int64) (o_game_board_upper : Int64) (o_game_board_lower : Int64) (o_game_board_left : Int64) (o_game_board_right : Int64) (o_threatPlayers : Nat → Int32) (o_threatRegions : Nat → Int64) (p1 : Int32) (o : Int64) (hf : m_X5_needed o_threatCount o_game_stones0 o_game_stones1 o_game_board_all o_threatPlayers o_threatRegions p1 = some o) : Met l yX5_needed (wl yX5_needed cX5_needed 6 (some .long)) R_X5_needed (PR [.ref z0, .int p1] D C [cX5 z0 z1 r_o_trial r_o_slots r_o_paths r_o_table r_o_contest r_o_foundBridges z3 z4 o_threatCount r_o_text o_textLength, cX3 z1 z2 o_game_made o_game_known r_o_game_list o_game_stones0 o_game_stones1, cX0 z2 o_game_board_size o_game_board_cells o_game_board_all o_game_board_upper o_game_board_lower o_game_board_left o_game_board_right, aI C z3 6 o_threatPlayers, aJ C z4 6 o_threatRegions]) (vp_Sl (fun r => r = o)) 0 0 (fun _ => False) := by
  refine Met_ofC (by decide) ?_
  intro p e s m args below meth c hc hv
  obtain ⟨rfl, hP, hK⟩ := hv
  have hx := hc.1
  have hb := hc.2.1
  have hown := hc.2.2.2.2.1
  have hts := hc.2.2.2.2.2.1
  refine en_F rfl (fun ls hl => ?_)
  have hl : lv_has ls 6 [(0, .ref z0), (1, .int p1)] := hl
  refine lv_iload_n hx hb dX5_needed_0 rfl (lv_at hl 1 rfl) ?_
  refine rcSi (As := [.int p1]) (rest := []) hc k_X5_125 (c_X5_isPlayer l D C p1  _ rfl) ⟨rfl, rfl, Nat.le_of_ble_eq_true rfl, Nat.le_of_ble_eq_true rfl⟩ (hP.sub [] rfl) hK hl rfl rfl (Nat.le_of_ble_eq_true rfl) ⟨Nat.zero_le _, Nat.zero_le _⟩ dX5_needed_1 ?_
  refine lv_if_ne (tgt := 11) hx hb dX5_needed_4 (by decide) (fun c1 => ?_) (fun c1 => ?_)
  · have hf := if_f hf c1
    refine lv_iconst (v := (0 : Int32)) hx hb dX5_needed_11 (by decide) ?_
    refine lv_istore_n (lv' := [(2, .int (0 : Int32)), (0, .ref z0), (1, .int p1)]) hx hb dX5_needed_12 rfl hl (by decide) rfl (fun ls hl => ?_)
    refine lv_aload_n hx hb dX5_needed_13 rfl (lv_at hl 1 rfl) ?_
    refine va_get (D := D) (ci := 5) (v := .ref z1) (C := RX5) (T := TX5) (N := 12) hx hb hts inX5 hown hK hP 0 rfl rfl 0 (by decide) (hts _ q_137) (fun _ h9 => h9) rfl dX5_needed_14 ?_
    refine rcVl (As := []) (rest := []) hc k_X5_151 (c_X3_free l D C z1 z2 o_game_made o_game_known r_o_game_list o_game_stones0 o_game_stones1 o_game_board_size o_game_board_cells o_game_board_all o_game_board_upper o_game_board_lower o_game_board_left o_game_board_right  _ rfl) ⟨rfl, rfl, Nat.le_of_ble_eq_true rfl, Nat.le_of_ble_eq_true rfl⟩ (hP.sub [1, 2] rfl) hK (q0 := 0) rfl rfl rfl hl rfl rfl (Nat.le_of_ble_eq_true rfl) ⟨Nat.zero_le _, Nat.zero_le _⟩ dX5_needed_17 ?_
    refine lv_lstore_n (lv' := [(3, .long (m_X3_free o_game_stones0 o_game_stones1 o_game_board_all)), (2, .int (0 : Int32)), (0, .ref z0), (1, .int p1)]) hx hb dX5_needed_20 rfl hl (by decide) rfl (fun ls hl => ?_)
    refine lv_iconst (v := (0 : Int32)) hx hb dX5_needed_21 (by decide) ?_
    refine lv_istore (lv' := [(5, .int (0 : Int32)), (3, .long (m_X3_free o_game_stones0 o_game_stones1 o_game_board_all)), (2, .int (0 : Int32)), (0, .ref z0), (1, .int p1)]) hx hb dX5_needed_22 hl (by decide) rfl (fun ls hl => ?_)
    exact w_X5_needed_c24 hc hK hP  FU (0 : Int32) (m_X3_free o_game_stones0 o_game_stones1 o_game_board_all) (0 : Int32) hf ls (lv_sub hl [3, 4, 2, 1, 0] rfl)
  · have hf := if_t hf c1
    refine lv_ldc2 (v := (-11 : Int64)) hx hb hown (hts _ q_302) dX5_needed_7 ?_
    exact rRl hc (Option.some.inj hf) dX5_needed_10
abbrev R_X5_cellWithNumber : Room := { frames := 0, cells := 0, slots := 0, locals := 0 }
def m_X5_cellWithNumber_c5 (p1 : Int32)  : Nat → Int64 → Int32 → Option (Int64)
  | 0, _, _ => none
  | n + 1, v3, v5 => (if p1 ≤ v5 then some (v3 &&& (-v3)) else (m_X5_cellWithNumber_c5 p1  n (v3 &&& (v3 - (1 : Int64))) (v5 + (1 : Int32))))
set_option maxHeartbeats 4000000 in
set_option maxRecDepth 100000 in
theorem w_X5_cellWithNumber_c5 {p : Program} {l : Launch} {e : Env} {s : State} {m : MethodId} {args : Array Value} {below : List Frame} {meth : Method} {c : Code} {D : va_G} {C : Nat → ClassId} {p1 : Int32} {o : Int64} (hc : Cx p s m args meth c yX5_cellWithNumber cX5_cellWithNumber 6 (some .long)) (hK : va_K D vwCl (TY C) s) (hP : va_P D vwCl ([] : va_W) s.heap) : ∀ (n : Nat), ∀ (v3 : Int64) (v5 : Int32), m_X5_cellWithNumber_c5 p1  n v3 v5 = some o → ∀ (ls : Array Slot), lv_has ls 6 [(2, .int p1), (3, .long v3), (5, .int v5)] → W p l e R_X5_cellWithNumber s m args below meth c s.heap [] 0 0 (MQ below (vp_Sl (fun r => r = o)) args s 0 0 (fun _ => False)) (F0 m 5 ls []) := by
  have hx := hc.1
  have hb := hc.2.1
  have hown := hc.2.2.2.2.1
  have hts := hc.2.2.2.2.2.1
  intro n
  induction n with
  | zero =>
    intro v3 v5 hf
    exact no_some hf
  | succ n ih =>
    intro v3 v5 hf ls hl
    refine lv_iload hx hb dX5_cellWithNumber_5 (lv_at hl 2 rfl) ?_
    refine lv_iload_n hx hb dX5_cellWithNumber_7 rfl (lv_at hl 0 rfl) ?_
    refine lv_icmp_ge (tgt := 23) hx hb dX5_cellWithNumber_8 (by decide) (fun c1 => ?_) (fun c1 => ?_)
    · have hf := if_t hf c1
      refine lv_lload_n hx hb dX5_cellWithNumber_23 rfl (lv_at hl 1 rfl) ?_
      refine lv_lload_n hx hb dX5_cellWithNumber_24 rfl (lv_at hl 1 rfl) ?_
      refine lv_lneg hx hb dX5_cellWithNumber_25 ?_
      refine lv_land hx hb dX5_cellWithNumber_26 ?_
      exact rRl hc (Option.some.inj hf) dX5_cellWithNumber_27
    · have hf := if_f hf c1
      refine lv_lload_n hx hb dX5_cellWithNumber_11 rfl (lv_at hl 1 rfl) ?_
      refine lv_lload_n hx hb dX5_cellWithNumber_12 rfl (lv_at hl 1 rfl) ?_
      refine lv_lconst (v := (1 : Int64)) hx hb dX5_cellWithNumber_13 (by decide) ?_
      refine lv_lsub hx hb dX5_cellWithNumber_14 ?_
      refine lv_land hx hb dX5_cellWithNumber_15 ?_
      refine lv_lstore_n (lv' := [(3, .long (v3 &&& (v3 - (1 : Int64)))), (2, .int p1), (5, .int v5)]) hx hb dX5_cellWithNumber_16 rfl hl (by decide) rfl (fun ls hl => ?_)
      refine lv_iinc (v := (v5 + (1 : Int32))) (lv' := [(5, .int (v5 + (1 : Int32))), (3, .long (v3 &&& (v3 - (1 : Int64)))), (2, .int p1)]) hx hb dX5_cellWithNumber_17 hl (k := 2) rfl rfl (by decide) rfl (fun ls hl => ?_)
      refine lv_goto (tgt := 5) hx hb dX5_cellWithNumber_20 (by decide) ?_
      exact ih (v3 &&& (v3 - (1 : Int64))) (v5 + (1 : Int32)) hf ls (lv_sub hl [2, 1, 0] rfl)
def m_X5_cellWithNumber (p0 : Int64) (p1 : Int32) : Option (Int64) := (m_X5_cellWithNumber_c5 p1 FU p0 (0 : Int32))
set_option maxHeartbeats 4000000 in
set_option maxRecDepth 100000 in
theorem c_X5_cellWithNumber (l : Launch) (D : va_G) (C : Nat → ClassId) (p0 : Int64) (p1 : Int32) (o : Int64) (hf : m_X5_cellWithNumber p0 p1 = some o) : Met l yX5_cellWithNumber (wl yX5_cellWithNumber cX5_cellWithNumber 6 (some .long)) R_X5_cellWithNumber (PR [.long p0, .int p1] D C ([] : va_W)) (vp_Sl (fun r => r = o)) 0 0 (fun _ => False) := by
  refine Met_ofC (by decide) ?_
  intro p e s m args below meth c hc hv
  obtain ⟨rfl, hP, hK⟩ := hv
  have hx := hc.1
  have hb := hc.2.1
  have hown := hc.2.2.2.2.1
  have hts := hc.2.2.2.2.2.1
  refine en_F rfl (fun ls hl => ?_)
  have hl : lv_has ls 6 [(0, .long p0), (2, .int p1)] := hl
  refine lv_lload_n hx hb dX5_cellWithNumber_0 rfl (lv_at hl 0 rfl) ?_
  refine lv_lstore_n (lv' := [(3, .long p0), (0, .long p0), (2, .int p1)]) hx hb dX5_cellWithNumber_1 rfl hl (by decide) rfl (fun ls hl => ?_)
  refine lv_iconst (v := (0 : Int32)) hx hb dX5_cellWithNumber_2 (by decide) ?_
  refine lv_istore (lv' := [(5, .int (0 : Int32)), (3, .long p0), (0, .long p0), (2, .int p1)]) hx hb dX5_cellWithNumber_3 hl (by decide) rfl (fun ls hl => ?_)
  exact w_X5_cellWithNumber_c5 hc hK hP  FU p0 (0 : Int32) hf ls (lv_sub hl [3, 1, 0] rfl)

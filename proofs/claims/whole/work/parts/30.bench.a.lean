abbrev R_X5_rows : Room := { frames := 0, cells := 0, slots := 0, locals := 0 }
def m_X5_rows (o_game_board_size : Int32) : Int32 := o_game_board_size
set_option maxHeartbeats 4000000 in
set_option maxRecDepth 100000 in
theorem c_X5_rows (l : Launch) (D : va_G) (C : Nat → ClassId) (z0 : Nat) (z1 : Nat) (z2 : Nat) (r_o_trial : Nat) (r_o_slots : Nat) (r_o_paths : Nat) (r_o_table : Nat) (r_o_contest : Nat) (r_o_foundBridges : Nat) (r_o_threatPlayers : Nat) (r_o_threatRegions : Nat) (o_threatCount : Int32) (r_o_text : Nat) (o_textLength : Int32) (o_game_made : Int32) (o_game_known : Int32) (r_o_game_list : Nat) (o_game_stones0 : Int64) (o_game_stones1 : Int64) (o_game_board_size : Int32) (o_game_board_cells : Int32) (o_game_board_all : Int64) (o_game_board_upper : Int64) (o_game_board_lower : Int64) (o_game_board_left : Int64) (o_game_board_right : Int64) (o : Int32) (hf : m_X5_rows o_game_board_size = o) : Met l yX5_rows (wl yX5_rows cX5_rows 1 (some .int)) R_X5_rows (PR [.ref z0] D C [cX5 z0 z1 r_o_trial r_o_slots r_o_paths r_o_table r_o_contest r_o_foundBridges r_o_threatPlayers r_o_threatRegions o_threatCount r_o_text o_textLength, cX3 z1 z2 o_game_made o_game_known r_o_game_list o_game_stones0 o_game_stones1, cX0 z2 o_game_board_size o_game_board_cells o_game_board_all o_game_board_upper o_game_board_lower o_game_board_left o_game_board_right]) (vp_Si (fun r => r = o)) 0 0 (fun _ => False) := by
  refine Met_ofC (by decide) ?_
  intro p e s m args below meth c hc hv
  obtain ⟨rfl, hP, hK⟩ := hv
  have hx := hc.1
  have hb := hc.2.1
  have hown := hc.2.2.2.2.1
  have hts := hc.2.2.2.2.2.1
  refine en_F rfl (fun ls hl => ?_)
  have hl : lv_has ls 1 [(0, .ref z0)] := hl
  refine lv_aload_n hx hb dX5_rows_0 rfl (lv_at hl 0 rfl) ?_
  refine va_get (D := D) (ci := 5) (v := .ref z1) (C := RX5) (T := TX5) (N := 12) hx hb hts inX5 hown hK hP 0 rfl rfl 0 (by decide) (hts _ q_137) (fun _ h9 => h9) rfl dX5_rows_1 ?_
  refine va_get (D := D) (ci := 3) (v := .ref z2) (C := RX3) (T := TX3) (N := 6) hx hb hts inX3 hown hK hP 1 rfl rfl 0 (by decide) (hts _ q_94) (fun _ h9 => h9) rfl dX5_rows_4 ?_
  refine va_get (D := D) (ci := 0) (v := .int o_game_board_size) (C := RX0) (T := TX0) (N := 7) hx hb hts inX0 hown hK hP 2 rfl rfl 0 (by decide) (hts _ q_51) (fun _ h9 => h9) rfl dX5_rows_7 ?_
  exact rRi hc hf dX5_rows_10
abbrev R_X5_isCell : Room := { frames := 0, cells := 0, slots := 0, locals := 0 }
def m_X5_isCell (o_game_board_cells : Int32) (p1 : Int32) : Int32 := (if p1 < 0 then (0 : Int32) else (if o_game_board_cells ≤ p1 then (0 : Int32) else (1 : Int32)))
set_option maxHeartbeats 4000000 in
set_option maxRecDepth 100000 in
theorem c_X5_isCell (l : Launch) (D : va_G) (C : Nat → ClassId) (z0 : Nat) (z1 : Nat) (z2 : Nat) (r_o_trial : Nat) (r_o_slots : Nat) (r_o_paths : Nat) (r_o_table : Nat) (r_o_contest : Nat) (r_o_foundBridges : Nat) (r_o_threatPlayers : Nat) (r_o_threatRegions : Nat) (o_threatCount : Int32) (r_o_text : Nat) (o_textLength : Int32) (o_game_made : Int32) (o_game_known : Int32) (r_o_game_list : Nat) (o_game_stones0 : Int64) (o_game_stones1 : Int64) (o_game_board_size : Int32) (o_game_board_cells : Int32) (o_game_board_all : Int64) (o_game_board_upper : Int64) (o_game_board_lower : Int64) (o_game_board_left : Int64) (o_game_board_right : Int64) (p1 : Int32) (o : Int32) (hf : m_X5_isCell o_game_board_cells p1 = o) : Met l yX5_isCell (wl yX5_isCell cX5_isCell 2 (some .boolean)) R_X5_isCell (PR [.ref z0, .int p1] D C [cX5 z0 z1 r_o_trial r_o_slots r_o_paths r_o_table r_o_contest r_o_foundBridges r_o_threatPlayers r_o_threatRegions o_threatCount r_o_text o_textLength, cX3 z1 z2 o_game_made o_game_known r_o_game_list o_game_stones0 o_game_stones1, cX0 z2 o_game_board_size o_game_board_cells o_game_board_all o_game_board_upper o_game_board_lower o_game_board_left o_game_board_right]) (vp_Si (fun r => r = o)) 0 0 (fun _ => False) := by
  refine Met_ofC (by decide) ?_
  intro p e s m args below meth c hc hv
  obtain ⟨rfl, hP, hK⟩ := hv
  have hx := hc.1
  have hb := hc.2.1
  have hown := hc.2.2.2.2.1
  have hts := hc.2.2.2.2.2.1
  refine en_F rfl (fun ls hl => ?_)
  have hl : lv_has ls 2 [(0, .ref z0), (1, .int p1)] := hl
  refine lv_iload_n hx hb dX5_isCell_0 rfl (lv_at hl 1 rfl) ?_
  refine lv_if_lt (tgt := 22) hx hb dX5_isCell_1 (by decide) (fun c1 => ?_) (fun c1 => ?_)
  · have hf := if_t hf c1
    refine lv_iconst (v := (0 : Int32)) hx hb dX5_isCell_22 (by decide) ?_
    exact rRz hc rfl hf dX5_isCell_23
  · have hf := if_f hf c1
    refine lv_iload_n hx hb dX5_isCell_4 rfl (lv_at hl 1 rfl) ?_
    refine lv_aload_n hx hb dX5_isCell_5 rfl (lv_at hl 0 rfl) ?_
    refine va_get (D := D) (ci := 5) (v := .ref z1) (C := RX5) (T := TX5) (N := 12) hx hb hts inX5 hown hK hP 0 rfl rfl 0 (by decide) (hts _ q_137) (fun _ h9 => h9) rfl dX5_isCell_6 ?_
    refine va_get (D := D) (ci := 3) (v := .ref z2) (C := RX3) (T := TX3) (N := 6) hx hb hts inX3 hown hK hP 1 rfl rfl 0 (by decide) (hts _ q_94) (fun _ h9 => h9) rfl dX5_isCell_9 ?_
    refine va_get (D := D) (ci := 0) (v := .int o_game_board_cells) (C := RX0) (T := TX0) (N := 7) hx hb hts inX0 hown hK hP 2 rfl rfl 1 (by decide) (hts _ q_53) (fun _ h9 => h9) rfl dX5_isCell_12 ?_
    refine lv_icmp_ge (tgt := 22) hx hb dX5_isCell_15 (by decide) (fun c2 => ?_) (fun c2 => ?_)
    · have hf := if_t hf c2
      refine lv_iconst (v := (0 : Int32)) hx hb dX5_isCell_22 (by decide) ?_
      exact rRz hc rfl hf dX5_isCell_23
    · have hf := if_f hf c2
      refine lv_iconst (v := (1 : Int32)) hx hb dX5_isCell_18 (by decide) ?_
      refine lv_goto (tgt := 23) hx hb dX5_isCell_19 (by decide) ?_
      exact rRz hc rfl hf dX5_isCell_23
abbrev R_X5_play : Room := { frames := 4, cells := 0, slots := 0, locals := 103 }
def m_X5_play (o_game_made : Int32) (o_game_known : Int32) (o_game_stones0 : Int64) (o_game_stones1 : Int64) (o_game_list : Nat → Int32) (o_game_board_size : Int32) (o_game_board_cells : Int32) (o_game_board_all : Int64) (o_game_board_upper : Int64) (o_game_board_lower : Int64) (o_game_board_left : Int64) (o_game_board_right : Int64) (p1 : Int32) : Option (Int32 × Int32 × Int32 × Int64 × Int64 × (Nat → Int32)) := (if (m_X5_isCell o_game_board_cells p1) = 0 then some ((-11 : Int32), o_game_made, o_game_known, o_game_stones0, o_game_stones1, o_game_list) else (if (m_X3_isFree o_game_stones0 o_game_stones1 o_game_board_all p1) = 0 then some ((-13 : Int32), o_game_made, o_game_known, o_game_stones0, o_game_stones1, o_game_list) else ((m_X3_victor o_game_stones0 o_game_stones1 o_game_board_size o_game_board_cells o_game_board_all o_game_board_upper o_game_board_lower o_game_board_left o_game_board_right).bind fun u3 => (if u3 = (-15 : Int32) then ((m_X3_add o_game_made o_game_known o_game_stones0 o_game_stones1 o_game_list o_game_board_size p1).bind fun u5 => some ((u5.1 - (1 : Int32)), u5.1, u5.2.1, u5.2.2.1, u5.2.2.2.1, u5.2.2.2.2)) else some ((-13 : Int32), o_game_made, o_game_known, o_game_stones0, o_game_stones1, o_game_list)))))
set_option maxHeartbeats 4000000 in
set_option maxRecDepth 100000 in
theorem c_X5_play (l : Launch) (D : va_G) (C : Nat → ClassId) (sz : Nat) (a0 : Nat) (a1 : Nat) (a2 : Nat) (a3 : Nat) (a4 : Nat) (a5 : Nat) (a6 : Nat) (a7 : Nat) (a8 : Nat) (a9 : Nat) (a10 : Nat) (a11 : Nat) (a12 : Nat) (a13 : Nat) (a14 : Nat) (a15 : Nat) (a16 : Nat) (z0 : Nat) (o_threatCount : Int32) (o_textLength : Int32) (o_game_made : Int32) (o_game_known : Int32) (o_game_stones0 : Int64) (o_game_stones1 : Int64) (o_game_list : Nat → Int32) (r_o_trial_board : Nat) (o_trial_made : Int32) (o_trial_known : Int32) (o_trial_stones0 : Int64) (o_trial_stones1 : Int64) (o_trial_list : Nat → Int32) (o_slots : Nat → Option Nat) (o_paths_layers : Nat → Int64) (o_table_count : Int32) (o_table_wins : Nat → Int64) (r_o_contest_board : Nat) (o_contest_from : Int64) (o_contest_to : Int64) (o_contest_spots : Nat → Int64) (o_contest_memo : Nat → Int64) (o_foundBridges : Nat → Int32) (o_threatPlayers : Nat → Int32) (o_threatRegions : Nat → Int64) (o_text : Nat → Int32) (o_game_board_size : Int32) (o_game_board_cells : Int32) (o_game_board_all : Int64) (o_game_board_upper : Int64) (o_game_board_lower : Int64) (o_game_board_left : Int64) (o_game_board_right : Int64) (p1 : Int32) (o : Int32 × Int32 × Int32 × Int64 × Int64 × (Nat → Int32)) (hf : m_X5_play o_game_made o_game_known o_game_stones0 o_game_stones1 o_game_list o_game_board_size o_game_board_cells o_game_board_all o_game_board_upper o_game_board_lower o_game_board_left o_game_board_right p1 = some o) : Met l yX5_play (wl yX5_play cX5_play 2 (some .int)) R_X5_play (PW [.ref a0, .int p1] D C sz (wX5 C a0 a1 a2 a3 a4 a5 a6 a7 a8 a9 a10 a11 a12 a13 a14 a15 a16 o_threatCount o_textLength z0 o_game_made o_game_known o_game_stones0 o_game_stones1 o_game_list r_o_trial_board o_trial_made o_trial_known o_trial_stones0 o_trial_stones1 o_trial_list o_slots o_paths_layers o_table_count o_table_wins r_o_contest_board o_contest_from o_contest_to o_contest_spots o_contest_memo o_foundBridges o_threatPlayers o_threatRegions o_text) [cX0 z0 o_game_board_size o_game_board_cells o_game_board_all o_game_board_upper o_game_board_lower o_game_board_left o_game_board_right]) (QWi D o.1 (wX5 C a0 a1 a2 a3 a4 a5 a6 a7 a8 a9 a10 a11 a12 a13 a14 a15 a16 o_threatCount o_textLength z0 o.2.1 o.2.2.1 o.2.2.2.1 o.2.2.2.2.1 o.2.2.2.2.2 r_o_trial_board o_trial_made o_trial_known o_trial_stones0 o_trial_stones1 o_trial_list o_slots o_paths_layers o_table_count o_table_wins r_o_contest_board o_contest_from o_contest_to o_contest_spots o_contest_memo o_foundBridges o_threatPlayers o_threatRegions o_text) (va_A (wX5 C a0 a1 a2 a3 a4 a5 a6 a7 a8 a9 a10 a11 a12 a13 a14 a15 a16 o_threatCount o_textLength z0 o_game_made o_game_known o_game_stones0 o_game_stones1 o_game_list r_o_trial_board o_trial_made o_trial_known o_trial_stones0 o_trial_stones1 o_trial_list o_slots o_paths_layers o_table_count o_table_wins r_o_contest_board o_contest_from o_contest_to o_contest_spots o_contest_memo o_foundBridges o_threatPlayers o_threatRegions o_text) sz)) 0 0 (va_A (wX5 C a0 a1 a2 a3 a4 a5 a6 a7 a8 a9 a10 a11 a12 a13 a14 a15 a16 o_threatCount o_textLength z0 o_game_made o_game_known o_game_stones0 o_game_stones1 o_game_list r_o_trial_board o_trial_made o_trial_known o_trial_stones0 o_trial_stones1 o_trial_list o_slots o_paths_layers o_table_count o_table_wins r_o_contest_board o_contest_from o_contest_to o_contest_spots o_contest_memo o_foundBridges o_threatPlayers o_threatRegions o_text) sz) := by
  refine Met_ofC (by decide) ?_
  intro p e s m args below meth c hc hv
  obtain ⟨rfl, hsz, hP, hK, hD0, hO, hN0⟩ := hv
  subst hsz
  have hD := hD0.self (sz := s.heap.size)
  have hN : ∀ q ∈ [cX0 z0 o_game_board_size o_game_board_cells o_game_board_all o_game_board_upper o_game_board_lower o_game_board_left o_game_board_right], ¬ va_A (wX5 C a0 a1 a2 a3 a4 a5 a6 a7 a8 a9 a10 a11 a12 a13 a14 a15 a16 o_threatCount o_textLength z0 o_game_made o_game_known o_game_stones0 o_game_stones1 o_game_list r_o_trial_board o_trial_made o_trial_known o_trial_stones0 o_trial_stones1 o_trial_list o_slots o_paths_layers o_table_count o_table_wins r_o_contest_board o_contest_from o_contest_to o_contest_spots o_contest_memo o_foundBridges o_threatPlayers o_threatRegions o_text) s.heap.size q.1 := hN0
  generalize hAe : va_A (wX5 C a0 a1 a2 a3 a4 a5 a6 a7 a8 a9 a10 a11 a12 a13 a14 a15 a16 o_threatCount o_textLength z0 o_game_made o_game_known o_game_stones0 o_game_stones1 o_game_list r_o_trial_board o_trial_made o_trial_known o_trial_stones0 o_trial_stones1 o_trial_list o_slots o_paths_layers o_table_count o_table_wins r_o_contest_board o_contest_from o_contest_to o_contest_spots o_contest_memo o_foundBridges o_threatPlayers o_threatRegions o_text) s.heap.size = A at hD hN ⊢
  have hA : ∀ q : Nat, s.heap.size ≤ q → A q := fun q h => by rw [← hAe]; exact Or.inr h
  have hS : va_S A s.heap s.heap [] := va_S.rf
  have hx := hc.1
  have hb := hc.2.1
  have hown := hc.2.2.2.2.1
  have hts := hc.2.2.2.2.2.1
  refine en_F rfl (fun ls hl => ?_)
  have hl : lv_has ls 2 [(0, .ref a0), (1, .int p1)] := hl
  refine lv_aload_n hx hb dX5_play_0 rfl (lv_at hl 0 rfl) ?_
  refine lv_iload_n hx hb dX5_play_1 rfl (lv_at hl 1 rfl) ?_
  refine rcVi (As := [.int p1]) (rest := []) hc k_X5_80 (c_X5_isCell l D C a0 a1 z0 a3 a5 a6 a8 a10 a13 a14 a15 o_threatCount a16 o_textLength o_game_made o_game_known a2 o_game_stones0 o_game_stones1 o_game_board_size o_game_board_cells o_game_board_all o_game_board_upper o_game_board_lower o_game_board_left o_game_board_right p1  _ rfl) ⟨rfl, rfl, Nat.le_of_ble_eq_true rfl, Nat.le_of_ble_eq_true rfl⟩ ((hP.app (ro_S hO hN hS)).sub [0, 1, 17] rfl) hK (q0 := 0) rfl rfl rfl hl rfl rfl (Nat.le_of_ble_eq_true rfl) ⟨Nat.zero_le _, Nat.zero_le _⟩ dX5_play_2 ?_
  refine lv_if_ne (tgt := 11) hx hb dX5_play_5 (by decide) (fun c1 => ?_) (fun c1 => ?_)
  · have hf := if_f hf c1
    refine lv_aload_n hx hb dX5_play_11 rfl (lv_at hl 0 rfl) ?_
    refine va_get (D := D) (ci := 5) (v := .ref a1) (C := RX5) (T := TX5) (N := 12) hx hb hts inX5 hown hK hP 0 rfl rfl 0 (by decide) (hts _ q_137) (fun _ h9 => h9) rfl dX5_play_12 ?_
    refine lv_iload_n hx hb dX5_play_15 rfl (lv_at hl 1 rfl) ?_
    refine rcVi (As := [.int p1]) (rest := []) hc k_X5_84 (c_X3_isFree l D C a1 z0 o_game_made o_game_known a2 o_game_stones0 o_game_stones1 o_game_board_size o_game_board_cells o_game_board_all o_game_board_upper o_game_board_lower o_game_board_left o_game_board_right p1  _ rfl) ⟨rfl, rfl, Nat.le_of_ble_eq_true rfl, Nat.le_of_ble_eq_true rfl⟩ ((hP.app (ro_S hO hN hS)).sub [1, 17] rfl) hK (q0 := 0) rfl rfl rfl hl rfl rfl (Nat.le_of_ble_eq_true rfl) ⟨Nat.zero_le _, Nat.zero_le _⟩ dX5_play_16 ?_
    refine lv_if_eq (tgt := 34) hx hb dX5_play_19 (by decide) (fun c2 => ?_) (fun c2 => ?_)
    · have hf := if_t hf c2
      refine lv_bipush (v := (-13 : Int32)) hx hb dX5_play_34 (by decide) ?_
      have hf := Option.some.inj hf
      subst hf
      exact rWi hc rfl hP hD hS dX5_play_36
    · have hf := if_f hf c2
      refine lv_aload_n hx hb dX5_play_22 rfl (lv_at hl 0 rfl) ?_
      refine va_get (D := D) (ci := 5) (v := .ref a1) (C := RX5) (T := TX5) (N := 12) hx hb hts inX5 hown hK hP 0 rfl rfl 0 (by decide) (hts _ q_137) (fun _ h9 => h9) rfl dX5_play_23 ?_
      obtain ⟨u3, hu3, hf⟩ := bind_some hf
      refine rcVi (As := []) (rest := []) hc k_X5_87 (c_X3_victor l D C a1 z0 o_game_made o_game_known a2 o_game_stones0 o_game_stones1 o_game_board_size o_game_board_cells o_game_board_all o_game_board_upper o_game_board_lower o_game_board_left o_game_board_right  _ hu3) ⟨rfl, rfl, Nat.le_of_ble_eq_true rfl, Nat.le_of_ble_eq_true rfl⟩ ((hP.app (ro_S hO hN hS)).sub [1, 17] rfl) hK (q0 := 0) rfl rfl rfl hl rfl rfl (Nat.le_of_ble_eq_true rfl) ⟨Nat.zero_le _, Nat.zero_le _⟩ dX5_play_26 ?_
      refine lv_bipush (v := (-15 : Int32)) hx hb dX5_play_29 (by decide) ?_
      refine lv_icmp_eq (tgt := 37) hx hb dX5_play_31 (by decide) (fun c4 => ?_) (fun c4 => ?_)
      · have hf := if_t hf c4
        refine lv_aload_n hx hb dX5_play_37 rfl (lv_at hl 0 rfl) ?_
        refine va_get (D := D) (ci := 5) (v := .ref a1) (C := RX5) (T := TX5) (N := 12) hx hb hts inX5 hown hK hP 0 rfl rfl 0 (by decide) (hts _ q_137) (fun _ h9 => h9) rfl dX5_play_38 ?_
        refine lv_iload_n hx hb dX5_play_41 rfl (lv_at hl 1 rfl) ?_
        obtain ⟨u5, hu5, hf⟩ := bind_some hf
        refine wcVv (A := A) (wc := [cX3 a1 z0 o_game_made o_game_known a2 o_game_stones0 o_game_stones1, aI C a2 50 o_game_list]) (w1 := [cX3 a1 z0 u5.1 u5.2.1 a2 u5.2.2.1 u5.2.2.2.1, aI C a2 50 u5.2.2.2.2]) (rc := [cX0 z0 o_game_board_size o_game_board_cells o_game_board_all o_game_board_upper o_game_board_lower o_game_board_left o_game_board_right]) (As := [.int p1]) (rest := []) hc k_X5_91 (c_X3_add l D C _ a1 a2 z0 o_game_made o_game_known o_game_stones0 o_game_stones1 o_game_list o_game_board_size o_game_board_cells o_game_board_all o_game_board_upper o_game_board_lower o_game_board_left o_game_board_right p1  _ hu5) ⟨rfl, rfl, Nat.le_of_ble_eq_true rfl, Nat.le_of_ble_eq_true rfl⟩ hP hD hS hA hK [1, 2] [0, 3, 4, 5, 6, 7, 8, 9, 10, 11, 12, 13, 14, 15, 16] rfl rfl rfl rfl (by decide) ((hP.app (ro_S hO hN hS)).sub [17] rfl) (Ap_cons (fun h9 => hN _ (List.mem_of_getElem? (i := 0) rfl) (va_free (wc := [cX3 a1 z0 o_game_made o_game_known a2 o_game_stones0 o_game_stones1, aI C a2 50 o_game_list]) hD hS hA [1, 2] rfl _ h9)) Ap_nil) (q0 := 0) rfl rfl rfl hl rfl rfl (Nat.le_of_ble_eq_true rfl) ⟨Nat.zero_le _, Nat.zero_le _⟩ dX5_play_42 (fun H locs hP hD hS => ?_)
        have hP : va_P D vwCl (wX5 C a0 a1 a2 a3 a4 a5 a6 a7 a8 a9 a10 a11 a12 a13 a14 a15 a16 o_threatCount o_textLength z0 u5.1 u5.2.1 u5.2.2.1 u5.2.2.2.1 u5.2.2.2.2 r_o_trial_board o_trial_made o_trial_known o_trial_stones0 o_trial_stones1 o_trial_list o_slots o_paths_layers o_table_count o_table_wins r_o_contest_board o_contest_from o_contest_to o_contest_spots o_contest_memo o_foundBridges o_threatPlayers o_threatRegions o_text) H := hP.sub [0, 15, 16, 1, 2, 3, 4, 5, 6, 7, 8, 9, 10, 11, 12, 13, 14] rfl
        have hD : va_D A (wX5 C a0 a1 a2 a3 a4 a5 a6 a7 a8 a9 a10 a11 a12 a13 a14 a15 a16 o_threatCount o_textLength z0 u5.1 u5.2.1 u5.2.2.1 u5.2.2.2.1 u5.2.2.2.2 r_o_trial_board o_trial_made o_trial_known o_trial_stones0 o_trial_stones1 o_trial_list o_slots o_paths_layers o_table_count o_table_wins r_o_contest_board o_contest_from o_contest_to o_contest_spots o_contest_memo o_foundBridges o_threatPlayers o_threatRegions o_text) := hD.sub [0, 15, 16, 1, 2, 3, 4, 5, 6, 7, 8, 9, 10, 11, 12, 13, 14] rfl rfl
        refine lv_aload_n hx hb dX5_play_45 rfl (lv_at hl 0 rfl) ?_
        refine va_get (D := D) (ci := 5) (v := .ref a1) (C := RX5) (T := TX5) (N := 12) hx hb hts inX5 hown hK hP 0 rfl rfl 0 (by decide) (hts _ q_137) (fun _ h9 => h9) rfl dX5_play_46 ?_
        refine va_get (D := D) (ci := 3) (v := .int u5.1) (C := RX3) (T := TX3) (N := 6) hx hb hts inX3 hown hK hP 1 rfl rfl 1 (by decide) (hts _ q_96) (fun _ h9 => h9) rfl dX5_play_49 ?_
        refine lv_iconst (v := (1 : Int32)) hx hb dX5_play_52 (by decide) ?_
        refine lv_isub hx hb dX5_play_53 ?_
        have hf := Option.some.inj hf
        subst hf
        exact rWi hc rfl hP hD hS dX5_play_54
      · have hf := if_f hf c4
        refine lv_bipush (v := (-13 : Int32)) hx hb dX5_play_34 (by decide) ?_
        have hf := Option.some.inj hf
        subst hf
        exact rWi hc rfl hP hD hS dX5_play_36
  · have hf := if_t hf c1
    refine lv_bipush (v := (-11 : Int32)) hx hb dX5_play_8 (by decide) ?_
    have hf := Option.some.inj hf
    subst hf
    exact rWi hc rfl hP hD hS dX5_play_10
abbrev R_X5_lowest : Room := { frames := 1, cells := 0, slots := 0, locals := 21 }
def m_X5_lowest (p0 : Int64) : Int32 := (m_J13_bitCount_95d88 ((p0 &&& (-p0)) - (1 : Int64)))
set_option maxHeartbeats 4000000 in
set_option maxRecDepth 100000 in
theorem c_X5_lowest (l : Launch) (D : va_G) (C : Nat → ClassId) (p0 : Int64) (o : Int32) (hf : m_X5_lowest p0 = o) : Met l yX5_lowest (wl yX5_lowest cX5_lowest 2 (some .int)) R_X5_lowest (PR [.long p0] D C ([] : va_W)) (vp_Si (fun r => r = o)) 0 0 (fun _ => False) := by
  refine Met_ofC (by decide) ?_
  intro p e s m args below meth c hc hv
  obtain ⟨rfl, hP, hK⟩ := hv
  have hx := hc.1
  have hb := hc.2.1
  have hown := hc.2.2.2.2.1
  have hts := hc.2.2.2.2.2.1
  refine en_F rfl (fun ls hl => ?_)
  have hl : lv_has ls 2 [(0, .long p0)] := hl
  refine lv_lload_n hx hb dX5_lowest_0 rfl (lv_at hl 0 rfl) ?_
  refine lv_lload_n hx hb dX5_lowest_1 rfl (lv_at hl 0 rfl) ?_
  refine lv_lneg hx hb dX5_lowest_2 ?_
  refine lv_land hx hb dX5_lowest_3 ?_
  refine lv_lconst (v := (1 : Int64)) hx hb dX5_lowest_4 (by decide) ?_
  refine lv_lsub hx hb dX5_lowest_5 ?_
  refine rcSi (As := [.long ((p0 &&& (-p0)) - (1 : Int64))]) (rest := []) hc k_X5_177 (c_J13_bitCount_95d88 l D C ((p0 &&& (-p0)) - (1 : Int64))  _ rfl) ⟨rfl, rfl, Nat.le_of_ble_eq_true rfl, Nat.le_of_ble_eq_true rfl⟩ (hP.sub [] rfl) hK hl rfl rfl (Nat.le_of_ble_eq_true rfl) ⟨Nat.zero_le _, Nat.zero_le _⟩ dX5_lowest_6 ?_
  exact rRi hc hf dX5_lowest_9
abbrev R_X5_swap : Room := { frames := 4, cells := 0, slots := 0, locals := 89 }
def m_X5_swap (o_game_made : Int32) (o_game_known : Int32) (o_game_stones0 : Int64) (o_game_stones1 : Int64) (o_game_list : Nat → Int32) (o_game_board_size : Int32) : Option (Int32 × Int32 × Int32 × Int64 × Int64 × (Nat → Int32)) := (if (m_X3_maySwap o_game_made) = 0 then some ((-13 : Int32), o_game_made, o_game_known, o_game_stones0, o_game_stones1, o_game_list) else ((m_X3_add o_game_made o_game_known o_game_stones0 o_game_stones1 o_game_list o_game_board_size (-16 : Int32)).bind fun u2 => some ((m_X5_lowest (m_X3_stonesOf u2.2.2.1 u2.2.2.2.1 (1 : Int32))), u2.1, u2.2.1, u2.2.2.1, u2.2.2.2.1, u2.2.2.2.2)))
set_option maxHeartbeats 4000000 in
set_option maxRecDepth 100000 in
theorem c_X5_swap (l : Launch) (D : va_G) (C : Nat → ClassId) (sz : Nat) (a0 : Nat) (a1 : Nat) (a2 : Nat) (a3 : Nat) (a4 : Nat) (a5 : Nat) (a6 : Nat) (a7 : Nat) (a8 : Nat) (a9 : Nat) (a10 : Nat) (a11 : Nat) (a12 : Nat) (a13 : Nat) (a14 : Nat) (a15 : Nat) (a16 : Nat) (z0 : Nat) (o_threatCount : Int32) (o_textLength : Int32) (o_game_made : Int32) (o_game_known : Int32) (o_game_stones0 : Int64) (o_game_stones1 : Int64) (o_game_list : Nat → Int32) (r_o_trial_board : Nat) (o_trial_made : Int32) (o_trial_known : Int32) (o_trial_stones0 : Int64) (o_trial_stones1 : Int64) (o_trial_list : Nat → Int32) (o_slots : Nat → Option Nat) (o_paths_layers : Nat → Int64) (o_table_count : Int32) (o_table_wins : Nat → Int64) (r_o_contest_board : Nat) (o_contest_from : Int64) (o_contest_to : Int64) (o_contest_spots : Nat → Int64) (o_contest_memo : Nat → Int64) (o_foundBridges : Nat → Int32) (o_threatPlayers : Nat → Int32) (o_threatRegions : Nat → Int64) (o_text : Nat → Int32) (o_game_board_size : Int32) (o_game_board_cells : Int32) (o_game_board_all : Int64) (o_game_board_upper : Int64) (o_game_board_lower : Int64) (o_game_board_left : Int64) (o_game_board_right : Int64) (o : Int32 × Int32 × Int32 × Int64 × Int64 × (Nat → Int32)) (hf : m_X5_swap o_game_made o_game_known o_game_stones0 o_game_stones1 o_game_list o_game_board_size = some o) : Met l yX5_swap (wl yX5_swap cX5_swap 1 (some .int)) R_X5_swap (PW [.ref a0] D C sz (wX5 C a0 a1 a2 a3 a4 a5 a6 a7 a8 a9 a10 a11 a12 a13 a14 a15 a16 o_threatCount o_textLength z0 o_game_made o_game_known o_game_stones0 o_game_stones1 o_game_list r_o_trial_board o_trial_made o_trial_known o_trial_stones0 o_trial_stones1 o_trial_list o_slots o_paths_layers o_table_count o_table_wins r_o_contest_board o_contest_from o_contest_to o_contest_spots o_contest_memo o_foundBridges o_threatPlayers o_threatRegions o_text) [cX0 z0 o_game_board_size o_game_board_cells o_game_board_all o_game_board_upper o_game_board_lower o_game_board_left o_game_board_right]) (QWi D o.1 (wX5 C a0 a1 a2 a3 a4 a5 a6 a7 a8 a9 a10 a11 a12 a13 a14 a15 a16 o_threatCount o_textLength z0 o.2.1 o.2.2.1 o.2.2.2.1 o.2.2.2.2.1 o.2.2.2.2.2 r_o_trial_board o_trial_made o_trial_known o_trial_stones0 o_trial_stones1 o_trial_list o_slots o_paths_layers o_table_count o_table_wins r_o_contest_board o_contest_from o_contest_to o_contest_spots o_contest_memo o_foundBridges o_threatPlayers o_threatRegions o_text) (va_A (wX5 C a0 a1 a2 a3 a4 a5 a6 a7 a8 a9 a10 a11 a12 a13 a14 a15 a16 o_threatCount o_textLength z0 o_game_made o_game_known o_game_stones0 o_game_stones1 o_game_list r_o_trial_board o_trial_made o_trial_known o_trial_stones0 o_trial_stones1 o_trial_list o_slots o_paths_layers o_table_count o_table_wins r_o_contest_board o_contest_from o_contest_to o_contest_spots o_contest_memo o_foundBridges o_threatPlayers o_threatRegions o_text) sz)) 0 0 (va_A (wX5 C a0 a1 a2 a3 a4 a5 a6 a7 a8 a9 a10 a11 a12 a13 a14 a15 a16 o_threatCount o_textLength z0 o_game_made o_game_known o_game_stones0 o_game_stones1 o_game_list r_o_trial_board o_trial_made o_trial_known o_trial_stones0 o_trial_stones1 o_trial_list o_slots o_paths_layers o_table_count o_table_wins r_o_contest_board o_contest_from o_contest_to o_contest_spots o_contest_memo o_foundBridges o_threatPlayers o_threatRegions o_text) sz) := by
  refine Met_ofC (by decide) ?_
  intro p e s m args below meth c hc hv
  obtain ⟨rfl, hsz, hP, hK, hD0, hO, hN0⟩ := hv
  subst hsz
  have hD := hD0.self (sz := s.heap.size)
  have hN : ∀ q ∈ [cX0 z0 o_game_board_size o_game_board_cells o_game_board_all o_game_board_upper o_game_board_lower o_game_board_left o_game_board_right], ¬ va_A (wX5 C a0 a1 a2 a3 a4 a5 a6 a7 a8 a9 a10 a11 a12 a13 a14 a15 a16 o_threatCount o_textLength z0 o_game_made o_game_known o_game_stones0 o_game_stones1 o_game_list r_o_trial_board o_trial_made o_trial_known o_trial_stones0 o_trial_stones1 o_trial_list o_slots o_paths_layers o_table_count o_table_wins r_o_contest_board o_contest_from o_contest_to o_contest_spots o_contest_memo o_foundBridges o_threatPlayers o_threatRegions o_text) s.heap.size q.1 := hN0
  generalize hAe : va_A (wX5 C a0 a1 a2 a3 a4 a5 a6 a7 a8 a9 a10 a11 a12 a13 a14 a15 a16 o_threatCount o_textLength z0 o_game_made o_game_known o_game_stones0 o_game_stones1 o_game_list r_o_trial_board o_trial_made o_trial_known o_trial_stones0 o_trial_stones1 o_trial_list o_slots o_paths_layers o_table_count o_table_wins r_o_contest_board o_contest_from o_contest_to o_contest_spots o_contest_memo o_foundBridges o_threatPlayers o_threatRegions o_text) s.heap.size = A at hD hN ⊢
  have hA : ∀ q : Nat, s.heap.size ≤ q → A q := fun q h => by rw [← hAe]; exact Or.inr h
  have hS : va_S A s.heap s.heap [] := va_S.rf
  have hx := hc.1
  have hb := hc.2.1
  have hown := hc.2.2.2.2.1
  have hts := hc.2.2.2.2.2.1
  refine en_F rfl (fun ls hl => ?_)
  have hl : lv_has ls 1 [(0, .ref a0)] := hl
  refine lv_aload_n hx hb dX5_swap_0 rfl (lv_at hl 0 rfl) ?_
  refine va_get (D := D) (ci := 5) (v := .ref a1) (C := RX5) (T := TX5) (N := 12) hx hb hts inX5 hown hK hP 0 rfl rfl 0 (by decide) (hts _ q_137) (fun _ h9 => h9) rfl dX5_swap_1 ?_
  refine rcVi (As := []) (rest := []) hc k_X5_97 (c_X3_maySwap l D C a1 z0 o_game_made o_game_known a2 o_game_stones0 o_game_stones1  _ rfl) ⟨rfl, rfl, Nat.le_of_ble_eq_true rfl, Nat.le_of_ble_eq_true rfl⟩ ((hP.app (ro_S hO hN hS)).sub [1] rfl) hK (q0 := 0) rfl rfl rfl hl rfl rfl (Nat.le_of_ble_eq_true rfl) ⟨Nat.zero_le _, Nat.zero_le _⟩ dX5_swap_4 ?_
  refine lv_if_ne (tgt := 13) hx hb dX5_swap_7 (by decide) (fun c1 => ?_) (fun c1 => ?_)
  · have hf := if_f hf c1
    refine lv_aload_n hx hb dX5_swap_13 rfl (lv_at hl 0 rfl) ?_
    refine va_get (D := D) (ci := 5) (v := .ref a1) (C := RX5) (T := TX5) (N := 12) hx hb hts inX5 hown hK hP 0 rfl rfl 0 (by decide) (hts _ q_137) (fun _ h9 => h9) rfl dX5_swap_14 ?_
    refine lv_bipush (v := (-16 : Int32)) hx hb dX5_swap_17 (by decide) ?_
    obtain ⟨u2, hu2, hf⟩ := bind_some hf
    refine wcVv (A := A) (wc := [cX3 a1 z0 o_game_made o_game_known a2 o_game_stones0 o_game_stones1, aI C a2 50 o_game_list]) (w1 := [cX3 a1 z0 u2.1 u2.2.1 a2 u2.2.2.1 u2.2.2.2.1, aI C a2 50 u2.2.2.2.2]) (rc := [cX0 z0 o_game_board_size o_game_board_cells o_game_board_all o_game_board_upper o_game_board_lower o_game_board_left o_game_board_right]) (As := [.int (-16 : Int32)]) (rest := []) hc k_X5_91 (c_X3_add l D C _ a1 a2 z0 o_game_made o_game_known o_game_stones0 o_game_stones1 o_game_list o_game_board_size o_game_board_cells o_game_board_all o_game_board_upper o_game_board_lower o_game_board_left o_game_board_right (-16 : Int32)  _ hu2) ⟨rfl, rfl, Nat.le_of_ble_eq_true rfl, Nat.le_of_ble_eq_true rfl⟩ hP hD hS hA hK [1, 2] [0, 3, 4, 5, 6, 7, 8, 9, 10, 11, 12, 13, 14, 15, 16] rfl rfl rfl rfl (by decide) ((hP.app (ro_S hO hN hS)).sub [17] rfl) (Ap_cons (fun h9 => hN _ (List.mem_of_getElem? (i := 0) rfl) (va_free (wc := [cX3 a1 z0 o_game_made o_game_known a2 o_game_stones0 o_game_stones1, aI C a2 50 o_game_list]) hD hS hA [1, 2] rfl _ h9)) Ap_nil) (q0 := 0) rfl rfl rfl hl rfl rfl (Nat.le_of_ble_eq_true rfl) ⟨Nat.zero_le _, Nat.zero_le _⟩ dX5_swap_19 (fun H locs hP hD hS => ?_)
    have hP : va_P D vwCl (wX5 C a0 a1 a2 a3 a4 a5 a6 a7 a8 a9 a10 a11 a12 a13 a14 a15 a16 o_threatCount o_textLength z0 u2.1 u2.2.1 u2.2.2.1 u2.2.2.2.1 u2.2.2.2.2 r_o_trial_board o_trial_made o_trial_known o_trial_stones0 o_trial_stones1 o_trial_list o_slots o_paths_layers o_table_count o_table_wins r_o_contest_board o_contest_from o_contest_to o_contest_spots o_contest_memo o_foundBridges o_threatPlayers o_threatRegions o_text) H := hP.sub [0, 15, 16, 1, 2, 3, 4, 5, 6, 7, 8, 9, 10, 11, 12, 13, 14] rfl
    have hD : va_D A (wX5 C a0 a1 a2 a3 a4 a5 a6 a7 a8 a9 a10 a11 a12 a13 a14 a15 a16 o_threatCount o_textLength z0 u2.1 u2.2.1 u2.2.2.1 u2.2.2.2.1 u2.2.2.2.2 r_o_trial_board o_trial_made o_trial_known o_trial_stones0 o_trial_stones1 o_trial_list o_slots o_paths_layers o_table_count o_table_wins r_o_contest_board o_contest_from o_contest_to o_contest_spots o_contest_memo o_foundBridges o_threatPlayers o_threatRegions o_text) := hD.sub [0, 15, 16, 1, 2, 3, 4, 5, 6, 7, 8, 9, 10, 11, 12, 13, 14] rfl rfl
    refine lv_aload_n hx hb dX5_swap_22 rfl (lv_at hl 0 rfl) ?_
    refine va_get (D := D) (ci := 5) (v := .ref a1) (C := RX5) (T := TX5) (N := 12) hx hb hts inX5 hown hK hP 0 rfl rfl 0 (by decide) (hts _ q_137) (fun _ h9 => h9) rfl dX5_swap_23 ?_
    refine lv_iconst (v := (1 : Int32)) hx hb dX5_swap_26 (by decide) ?_
    refine rcVl (As := [.int (1 : Int32)]) (rest := []) hc k_X5_101 (c_X3_stonesOf l D C a1 z0 u2.1 u2.2.1 a2 u2.2.2.1 u2.2.2.2.1 (1 : Int32)  _ rfl) ⟨rfl, rfl, Nat.le_of_ble_eq_true rfl, Nat.le_of_ble_eq_true rfl⟩ ((hP.app (ro_S hO hN hS)).sub [1] rfl) hK (q0 := 0) rfl rfl rfl hl rfl rfl (Nat.le_of_ble_eq_true rfl) ⟨Nat.zero_le _, Nat.zero_le _⟩ dX5_swap_27 ?_
    refine rcSi (As := [.long (m_X3_stonesOf u2.2.2.1 u2.2.2.2.1 (1 : Int32))]) (rest := []) hc k_X5_105 (c_X5_lowest l D C (m_X3_stonesOf u2.2.2.1 u2.2.2.2.1 (1 : Int32))  _ rfl) ⟨rfl, rfl, Nat.le_of_ble_eq_true rfl, Nat.le_of_ble_eq_true rfl⟩ (hP.sub [] rfl) hK hl rfl rfl (Nat.le_of_ble_eq_true rfl) ⟨Nat.zero_le _, Nat.zero_le _⟩ dX5_swap_30 ?_
    have hf := Option.some.inj hf
    subst hf
    exact rWi hc rfl hP hD hS dX5_swap_33
  · have hf := if_t hf c1
    refine lv_bipush (v := (-13 : Int32)) hx hb dX5_swap_10 (by decide) ?_
    have hf := Option.some.inj hf
    subst hf
    exact rWi hc rfl hP hD hS dX5_swap_12
abbrev R_X5_takeBack : Room := { frames := 4, cells := 0, slots := 0, locals := 90 }
def m_X5_takeBack (o_game_made : Int32) (o_game_known : Int32) (o_game_stones0 : Int64) (o_game_stones1 : Int64) (o_game_list : Nat → Int32) (o_game_board_size : Int32) : Option (Int32 × Int32 × Int64 × Int64) := (if o_game_made = 0 then some ((-13 : Int32), o_game_made, o_game_stones0, o_game_stones1) else ((m_X3_undo o_game_made o_game_known o_game_list o_game_board_size).bind fun u2 => some (u2.1, u2.1, u2.2.1, u2.2.2)))
set_option maxHeartbeats 4000000 in
set_option maxRecDepth 100000 in
theorem c_X5_takeBack (l : Launch) (D : va_G) (C : Nat → ClassId) (sz : Nat) (a0 : Nat) (a1 : Nat) (a2 : Nat) (a3 : Nat) (a4 : Nat) (a5 : Nat) (a6 : Nat) (a7 : Nat) (a8 : Nat) (a9 : Nat) (a10 : Nat) (a11 : Nat) (a12 : Nat) (a13 : Nat) (a14 : Nat) (a15 : Nat) (a16 : Nat) (z0 : Nat) (o_threatCount : Int32) (o_textLength : Int32) (o_game_made : Int32) (o_game_known : Int32) (o_game_stones0 : Int64) (o_game_stones1 : Int64) (o_game_list : Nat → Int32) (r_o_trial_board : Nat) (o_trial_made : Int32) (o_trial_known : Int32) (o_trial_stones0 : Int64) (o_trial_stones1 : Int64) (o_trial_list : Nat → Int32) (o_slots : Nat → Option Nat) (o_paths_layers : Nat → Int64) (o_table_count : Int32) (o_table_wins : Nat → Int64) (r_o_contest_board : Nat) (o_contest_from : Int64) (o_contest_to : Int64) (o_contest_spots : Nat → Int64) (o_contest_memo : Nat → Int64) (o_foundBridges : Nat → Int32) (o_threatPlayers : Nat → Int32) (o_threatRegions : Nat → Int64) (o_text : Nat → Int32) (o_game_board_size : Int32) (o_game_board_cells : Int32) (o_game_board_all : Int64) (o_game_board_upper : Int64) (o_game_board_lower : Int64) (o_game_board_left : Int64) (o_game_board_right : Int64) (o : Int32 × Int32 × Int64 × Int64) (hf : m_X5_takeBack o_game_made o_game_known o_game_stones0 o_game_stones1 o_game_list o_game_board_size = some o) : Met l yX5_takeBack (wl yX5_takeBack cX5_takeBack 1 (some .int)) R_X5_takeBack (PW [.ref a0] D C sz (wX5 C a0 a1 a2 a3 a4 a5 a6 a7 a8 a9 a10 a11 a12 a13 a14 a15 a16 o_threatCount o_textLength z0 o_game_made o_game_known o_game_stones0 o_game_stones1 o_game_list r_o_trial_board o_trial_made o_trial_known o_trial_stones0 o_trial_stones1 o_trial_list o_slots o_paths_layers o_table_count o_table_wins r_o_contest_board o_contest_from o_contest_to o_contest_spots o_contest_memo o_foundBridges o_threatPlayers o_threatRegions o_text) [cX0 z0 o_game_board_size o_game_board_cells o_game_board_all o_game_board_upper o_game_board_lower o_game_board_left o_game_board_right]) (QWi D o.1 (wX5 C a0 a1 a2 a3 a4 a5 a6 a7 a8 a9 a10 a11 a12 a13 a14 a15 a16 o_threatCount o_textLength z0 o.2.1 o_game_known o.2.2.1 o.2.2.2 o_game_list r_o_trial_board o_trial_made o_trial_known o_trial_stones0 o_trial_stones1 o_trial_list o_slots o_paths_layers o_table_count o_table_wins r_o_contest_board o_contest_from o_contest_to o_contest_spots o_contest_memo o_foundBridges o_threatPlayers o_threatRegions o_text) (va_A (wX5 C a0 a1 a2 a3 a4 a5 a6 a7 a8 a9 a10 a11 a12 a13 a14 a15 a16 o_threatCount o_textLength z0 o_game_made o_game_known o_game_stones0 o_game_stones1 o_game_list r_o_trial_board o_trial_made o_trial_known o_trial_stones0 o_trial_stones1 o_trial_list o_slots o_paths_layers o_table_count o_table_wins r_o_contest_board o_contest_from o_contest_to o_contest_spots o_contest_memo o_foundBridges o_threatPlayers o_threatRegions o_text) sz)) 0 0 (va_A (wX5 C a0 a1 a2 a3 a4 a5 a6 a7 a8 a9 a10 a11 a12 a13 a14 a15 a16 o_threatCount o_textLength z0 o_game_made o_game_known o_game_stones0 o_game_stones1 o_game_list r_o_trial_board o_trial_made o_trial_known o_trial_stones0 o_trial_stones1 o_trial_list o_slots o_paths_layers o_table_count o_table_wins r_o_contest_board o_contest_from o_contest_to o_contest_spots o_contest_memo o_foundBridges o_threatPlayers o_threatRegions o_text) sz) := by
  refine Met_ofC (by decide) ?_
  intro p e s m args below meth c hc hv
  obtain ⟨rfl, hsz, hP, hK, hD0, hO, hN0⟩ := hv
  subst hsz
  have hD := hD0.self (sz := s.heap.size)
  have hN : ∀ q ∈ [cX0 z0 o_game_board_size o_game_board_cells o_game_board_all o_game_board_upper o_game_board_lower o_game_board_left o_game_board_right], ¬ va_A (wX5 C a0 a1 a2 a3 a4 a5 a6 a7 a8 a9 a10 a11 a12 a13 a14 a15 a16 o_threatCount o_textLength z0 o_game_made o_game_known o_game_stones0 o_game_stones1 o_game_list r_o_trial_board o_trial_made o_trial_known o_trial_stones0 o_trial_stones1 o_trial_list o_slots o_paths_layers o_table_count o_table_wins r_o_contest_board o_contest_from o_contest_to o_contest_spots o_contest_memo o_foundBridges o_threatPlayers o_threatRegions o_text) s.heap.size q.1 := hN0
  generalize hAe : va_A (wX5 C a0 a1 a2 a3 a4 a5 a6 a7 a8 a9 a10 a11 a12 a13 a14 a15 a16 o_threatCount o_textLength z0 o_game_made o_game_known o_game_stones0 o_game_stones1 o_game_list r_o_trial_board o_trial_made o_trial_known o_trial_stones0 o_trial_stones1 o_trial_list o_slots o_paths_layers o_table_count o_table_wins r_o_contest_board o_contest_from o_contest_to o_contest_spots o_contest_memo o_foundBridges o_threatPlayers o_threatRegions o_text) s.heap.size = A at hD hN ⊢
  have hA : ∀ q : Nat, s.heap.size ≤ q → A q := fun q h => by rw [← hAe]; exact Or.inr h
  have hS : va_S A s.heap s.heap [] := va_S.rf
  have hx := hc.1
  have hb := hc.2.1
  have hown := hc.2.2.2.2.1
  have hts := hc.2.2.2.2.2.1
  refine en_F rfl (fun ls hl => ?_)
  have hl : lv_has ls 1 [(0, .ref a0)] := hl
  refine lv_aload_n hx hb dX5_takeBack_0 rfl (lv_at hl 0 rfl) ?_
  refine va_get (D := D) (ci := 5) (v := .ref a1) (C := RX5) (T := TX5) (N := 12) hx hb hts inX5 hown hK hP 0 rfl rfl 0 (by decide) (hts _ q_137) (fun _ h9 => h9) rfl dX5_takeBack_1 ?_
  refine va_get (D := D) (ci := 3) (v := .int o_game_made) (C := RX3) (T := TX3) (N := 6) hx hb hts inX3 hown hK hP 1 rfl rfl 1 (by decide) (hts _ q_96) (fun _ h9 => h9) rfl dX5_takeBack_4 ?_
  refine lv_if_ne (tgt := 13) hx hb dX5_takeBack_7 (by decide) (fun c1 => ?_) (fun c1 => ?_)
  · have hf := if_f hf c1
    refine lv_aload_n hx hb dX5_takeBack_13 rfl (lv_at hl 0 rfl) ?_
    refine va_get (D := D) (ci := 5) (v := .ref a1) (C := RX5) (T := TX5) (N := 12) hx hb hts inX5 hown hK hP 0 rfl rfl 0 (by decide) (hts _ q_137) (fun _ h9 => h9) rfl dX5_takeBack_14 ?_
    obtain ⟨u2, hu2, hf⟩ := bind_some hf
    refine wcVv (A := A) (wc := [cX3 a1 z0 o_game_made o_game_known a2 o_game_stones0 o_game_stones1, aI C a2 50 o_game_list]) (w1 := [cX3 a1 z0 u2.1 o_game_known a2 u2.2.1 u2.2.2, aI C a2 50 o_game_list]) (rc := [cX0 z0 o_game_board_size o_game_board_cells o_game_board_all o_game_board_upper o_game_board_lower o_game_board_left o_game_board_right]) (As := []) (rest := []) hc k_X5_109 (c_X3_undo l D C _ a1 a2 z0 o_game_made o_game_known o_game_stones0 o_game_stones1 o_game_list o_game_board_size o_game_board_cells o_game_board_all o_game_board_upper o_game_board_lower o_game_board_left o_game_board_right  _ hu2) ⟨rfl, rfl, Nat.le_of_ble_eq_true rfl, Nat.le_of_ble_eq_true rfl⟩ hP hD hS hA hK [1, 2] [0, 3, 4, 5, 6, 7, 8, 9, 10, 11, 12, 13, 14, 15, 16] rfl rfl rfl rfl (by decide) ((hP.app (ro_S hO hN hS)).sub [17] rfl) (Ap_cons (fun h9 => hN _ (List.mem_of_getElem? (i := 0) rfl) (va_free (wc := [cX3 a1 z0 o_game_made o_game_known a2 o_game_stones0 o_game_stones1, aI C a2 50 o_game_list]) hD hS hA [1, 2] rfl _ h9)) Ap_nil) (q0 := 0) rfl rfl rfl hl rfl rfl (Nat.le_of_ble_eq_true rfl) ⟨Nat.zero_le _, Nat.zero_le _⟩ dX5_takeBack_17 (fun H locs hP hD hS => ?_)
    have hP : va_P D vwCl (wX5 C a0 a1 a2 a3 a4 a5 a6 a7 a8 a9 a10 a11 a12 a13 a14 a15 a16 o_threatCount o_textLength z0 u2.1 o_game_known u2.2.1 u2.2.2 o_game_list r_o_trial_board o_trial_made o_trial_known o_trial_stones0 o_trial_stones1 o_trial_list o_slots o_paths_layers o_table_count o_table_wins r_o_contest_board o_contest_from o_contest_to o_contest_spots o_contest_memo o_foundBridges o_threatPlayers o_threatRegions o_text) H := hP.sub [0, 15, 16, 1, 2, 3, 4, 5, 6, 7, 8, 9, 10, 11, 12, 13, 14] rfl
    have hD : va_D A (wX5 C a0 a1 a2 a3 a4 a5 a6 a7 a8 a9 a10 a11 a12 a13 a14 a15 a16 o_threatCount o_textLength z0 u2.1 o_game_known u2.2.1 u2.2.2 o_game_list r_o_trial_board o_trial_made o_trial_known o_trial_stones0 o_trial_stones1 o_trial_list o_slots o_paths_layers o_table_count o_table_wins r_o_contest_board o_contest_from o_contest_to o_contest_spots o_contest_memo o_foundBridges o_threatPlayers o_threatRegions o_text) := hD.sub [0, 15, 16, 1, 2, 3, 4, 5, 6, 7, 8, 9, 10, 11, 12, 13, 14] rfl rfl
    refine lv_aload_n hx hb dX5_takeBack_20 rfl (lv_at hl 0 rfl) ?_
    refine va_get (D := D) (ci := 5) (v := .ref a1) (C := RX5) (T := TX5) (N := 12) hx hb hts inX5 hown hK hP 0 rfl rfl 0 (by decide) (hts _ q_137) (fun _ h9 => h9) rfl dX5_takeBack_21 ?_
    refine va_get (D := D) (ci := 3) (v := .int u2.1) (C := RX3) (T := TX3) (N := 6) hx hb hts inX3 hown hK hP 1 rfl rfl 1 (by decide) (hts _ q_96) (fun _ h9 => h9) rfl dX5_takeBack_24 ?_
    have hf := Option.some.inj hf
    subst hf
    exact rWi hc rfl hP hD hS dX5_takeBack_27
  · have hf := if_t hf c1
    refine lv_bipush (v := (-13 : Int32)) hx hb dX5_takeBack_10 (by decide) ?_
    have hf := Option.some.inj hf
    subst hf
    exact rWi hc rfl hP hD hS dX5_takeBack_12
abbrev R_X5_again : Room := { frames := 3, cells := 0, slots := 0, locals := 68 }
def m_X5_again (o_game_made : Int32) (o_game_known : Int32) (o_game_stones0 : Int64) (o_game_stones1 : Int64) (o_game_list : Nat → Int32) (o_game_board_size : Int32) : Option (Int32 × Int32 × Int64 × Int64) := (if o_game_made = o_game_known then some ((-13 : Int32), o_game_made, o_game_stones0, o_game_stones1) else ((m_X3_redo o_game_made o_game_known o_game_stones0 o_game_stones1 o_game_list o_game_board_size).bind fun u2 => some ((u2.1 - (1 : Int32)), u2.1, u2.2.1, u2.2.2)))
set_option maxHeartbeats 4000000 in
set_option maxRecDepth 100000 in
theorem c_X5_again (l : Launch) (D : va_G) (C : Nat → ClassId) (sz : Nat) (a0 : Nat) (a1 : Nat) (a2 : Nat) (a3 : Nat) (a4 : Nat) (a5 : Nat) (a6 : Nat) (a7 : Nat) (a8 : Nat) (a9 : Nat) (a10 : Nat) (a11 : Nat) (a12 : Nat) (a13 : Nat) (a14 : Nat) (a15 : Nat) (a16 : Nat) (z0 : Nat) (o_threatCount : Int32) (o_textLength : Int32) (o_game_made : Int32) (o_game_known : Int32) (o_game_stones0 : Int64) (o_game_stones1 : Int64) (o_game_list : Nat → Int32) (r_o_trial_board : Nat) (o_trial_made : Int32) (o_trial_known : Int32) (o_trial_stones0 : Int64) (o_trial_stones1 : Int64) (o_trial_list : Nat → Int32) (o_slots : Nat → Option Nat) (o_paths_layers : Nat → Int64) (o_table_count : Int32) (o_table_wins : Nat → Int64) (r_o_contest_board : Nat) (o_contest_from : Int64) (o_contest_to : Int64) (o_contest_spots : Nat → Int64) (o_contest_memo : Nat → Int64) (o_foundBridges : Nat → Int32) (o_threatPlayers : Nat → Int32) (o_threatRegions : Nat → Int64) (o_text : Nat → Int32) (o_game_board_size : Int32) (o_game_board_cells : Int32) (o_game_board_all : Int64) (o_game_board_upper : Int64) (o_game_board_lower : Int64) (o_game_board_left : Int64) (o_game_board_right : Int64) (o : Int32 × Int32 × Int64 × Int64) (hf : m_X5_again o_game_made o_game_known o_game_stones0 o_game_stones1 o_game_list o_game_board_size = some o) : Met l yX5_again (wl yX5_again cX5_again 1 (some .int)) R_X5_again (PW [.ref a0] D C sz (wX5 C a0 a1 a2 a3 a4 a5 a6 a7 a8 a9 a10 a11 a12 a13 a14 a15 a16 o_threatCount o_textLength z0 o_game_made o_game_known o_game_stones0 o_game_stones1 o_game_list r_o_trial_board o_trial_made o_trial_known o_trial_stones0 o_trial_stones1 o_trial_list o_slots o_paths_layers o_table_count o_table_wins r_o_contest_board o_contest_from o_contest_to o_contest_spots o_contest_memo o_foundBridges o_threatPlayers o_threatRegions o_text) [cX0 z0 o_game_board_size o_game_board_cells o_game_board_all o_game_board_upper o_game_board_lower o_game_board_left o_game_board_right]) (QWi D o.1 (wX5 C a0 a1 a2 a3 a4 a5 a6 a7 a8 a9 a10 a11 a12 a13 a14 a15 a16 o_threatCount o_textLength z0 o.2.1 o_game_known o.2.2.1 o.2.2.2 o_game_list r_o_trial_board o_trial_made o_trial_known o_trial_stones0 o_trial_stones1 o_trial_list o_slots o_paths_layers o_table_count o_table_wins r_o_contest_board o_contest_from o_contest_to o_contest_spots o_contest_memo o_foundBridges o_threatPlayers o_threatRegions o_text) (va_A (wX5 C a0 a1 a2 a3 a4 a5 a6 a7 a8 a9 a10 a11 a12 a13 a14 a15 a16 o_threatCount o_textLength z0 o_game_made o_game_known o_game_stones0 o_game_stones1 o_game_list r_o_trial_board o_trial_made o_trial_known o_trial_stones0 o_trial_stones1 o_trial_list o_slots o_paths_layers o_table_count o_table_wins r_o_contest_board o_contest_from o_contest_to o_contest_spots o_contest_memo o_foundBridges o_threatPlayers o_threatRegions o_text) sz)) 0 0 (va_A (wX5 C a0 a1 a2 a3 a4 a5 a6 a7 a8 a9 a10 a11 a12 a13 a14 a15 a16 o_threatCount o_textLength z0 o_game_made o_game_known o_game_stones0 o_game_stones1 o_game_list r_o_trial_board o_trial_made o_trial_known o_trial_stones0 o_trial_stones1 o_trial_list o_slots o_paths_layers o_table_count o_table_wins r_o_contest_board o_contest_from o_contest_to o_contest_spots o_contest_memo o_foundBridges o_threatPlayers o_threatRegions o_text) sz) := by
  refine Met_ofC (by decide) ?_
  intro p e s m args below meth c hc hv
  obtain ⟨rfl, hsz, hP, hK, hD0, hO, hN0⟩ := hv
  subst hsz
  have hD := hD0.self (sz := s.heap.size)
  have hN : ∀ q ∈ [cX0 z0 o_game_board_size o_game_board_cells o_game_board_all o_game_board_upper o_game_board_lower o_game_board_left o_game_board_right], ¬ va_A (wX5 C a0 a1 a2 a3 a4 a5 a6 a7 a8 a9 a10 a11 a12 a13 a14 a15 a16 o_threatCount o_textLength z0 o_game_made o_game_known o_game_stones0 o_game_stones1 o_game_list r_o_trial_board o_trial_made o_trial_known o_trial_stones0 o_trial_stones1 o_trial_list o_slots o_paths_layers o_table_count o_table_wins r_o_contest_board o_contest_from o_contest_to o_contest_spots o_contest_memo o_foundBridges o_threatPlayers o_threatRegions o_text) s.heap.size q.1 := hN0
  generalize hAe : va_A (wX5 C a0 a1 a2 a3 a4 a5 a6 a7 a8 a9 a10 a11 a12 a13 a14 a15 a16 o_threatCount o_textLength z0 o_game_made o_game_known o_game_stones0 o_game_stones1 o_game_list r_o_trial_board o_trial_made o_trial_known o_trial_stones0 o_trial_stones1 o_trial_list o_slots o_paths_layers o_table_count o_table_wins r_o_contest_board o_contest_from o_contest_to o_contest_spots o_contest_memo o_foundBridges o_threatPlayers o_threatRegions o_text) s.heap.size = A at hD hN ⊢
  have hA : ∀ q : Nat, s.heap.size ≤ q → A q := fun q h => by rw [← hAe]; exact Or.inr h
  have hS : va_S A s.heap s.heap [] := va_S.rf
  have hx := hc.1
  have hb := hc.2.1
  have hown := hc.2.2.2.2.1
  have hts := hc.2.2.2.2.2.1
  refine en_F rfl (fun ls hl => ?_)
  have hl : lv_has ls 1 [(0, .ref a0)] := hl
  refine lv_aload_n hx hb dX5_again_0 rfl (lv_at hl 0 rfl) ?_
  refine va_get (D := D) (ci := 5) (v := .ref a1) (C := RX5) (T := TX5) (N := 12) hx hb hts inX5 hown hK hP 0 rfl rfl 0 (by decide) (hts _ q_137) (fun _ h9 => h9) rfl dX5_again_1 ?_
  refine va_get (D := D) (ci := 3) (v := .int o_game_made) (C := RX3) (T := TX3) (N := 6) hx hb hts inX3 hown hK hP 1 rfl rfl 1 (by decide) (hts _ q_96) (fun _ h9 => h9) rfl dX5_again_4 ?_
  refine lv_aload_n hx hb dX5_again_7 rfl (lv_at hl 0 rfl) ?_
  refine va_get (D := D) (ci := 5) (v := .ref a1) (C := RX5) (T := TX5) (N := 12) hx hb hts inX5 hown hK hP 0 rfl rfl 0 (by decide) (hts _ q_137) (fun _ h9 => h9) rfl dX5_again_8 ?_
  refine va_get (D := D) (ci := 3) (v := .int o_game_known) (C := RX3) (T := TX3) (N := 6) hx hb hts inX3 hown hK hP 1 rfl rfl 2 (by decide) (hts _ q_98) (fun _ h9 => h9) rfl dX5_again_11 ?_
  refine lv_icmp_ne (tgt := 20) hx hb dX5_again_14 (by decide) (fun c1 => ?_) (fun c1 => ?_)
  · have hf := if_f hf c1
    refine lv_aload_n hx hb dX5_again_20 rfl (lv_at hl 0 rfl) ?_
    refine va_get (D := D) (ci := 5) (v := .ref a1) (C := RX5) (T := TX5) (N := 12) hx hb hts inX5 hown hK hP 0 rfl rfl 0 (by decide) (hts _ q_137) (fun _ h9 => h9) rfl dX5_again_21 ?_
    obtain ⟨u2, hu2, hf⟩ := bind_some hf
    refine wcVv (A := A) (wc := [cX3 a1 z0 o_game_made o_game_known a2 o_game_stones0 o_game_stones1, aI C a2 50 o_game_list]) (w1 := [cX3 a1 z0 u2.1 o_game_known a2 u2.2.1 u2.2.2, aI C a2 50 o_game_list]) (rc := [cX0 z0 o_game_board_size o_game_board_cells o_game_board_all o_game_board_upper o_game_board_lower o_game_board_left o_game_board_right]) (As := []) (rest := []) hc k_X5_115 (c_X3_redo l D C _ a1 a2 z0 o_game_made o_game_known o_game_stones0 o_game_stones1 o_game_list o_game_board_size o_game_board_cells o_game_board_all o_game_board_upper o_game_board_lower o_game_board_left o_game_board_right  _ hu2) ⟨rfl, rfl, Nat.le_of_ble_eq_true rfl, Nat.le_of_ble_eq_true rfl⟩ hP hD hS hA hK [1, 2] [0, 3, 4, 5, 6, 7, 8, 9, 10, 11, 12, 13, 14, 15, 16] rfl rfl rfl rfl (by decide) ((hP.app (ro_S hO hN hS)).sub [17] rfl) (Ap_cons (fun h9 => hN _ (List.mem_of_getElem? (i := 0) rfl) (va_free (wc := [cX3 a1 z0 o_game_made o_game_known a2 o_game_stones0 o_game_stones1, aI C a2 50 o_game_list]) hD hS hA [1, 2] rfl _ h9)) Ap_nil) (q0 := 0) rfl rfl rfl hl rfl rfl (Nat.le_of_ble_eq_true rfl) ⟨Nat.zero_le _, Nat.zero_le _⟩ dX5_again_24 (fun H locs hP hD hS => ?_)
    have hP : va_P D vwCl (wX5 C a0 a1 a2 a3 a4 a5 a6 a7 a8 a9 a10 a11 a12 a13 a14 a15 a16 o_threatCount o_textLength z0 u2.1 o_game_known u2.2.1 u2.2.2 o_game_list r_o_trial_board o_trial_made o_trial_known o_trial_stones0 o_trial_stones1 o_trial_list o_slots o_paths_layers o_table_count o_table_wins r_o_contest_board o_contest_from o_contest_to o_contest_spots o_contest_memo o_foundBridges o_threatPlayers o_threatRegions o_text) H := hP.sub [0, 15, 16, 1, 2, 3, 4, 5, 6, 7, 8, 9, 10, 11, 12, 13, 14] rfl
    have hD : va_D A (wX5 C a0 a1 a2 a3 a4 a5 a6 a7 a8 a9 a10 a11 a12 a13 a14 a15 a16 o_threatCount o_textLength z0 u2.1 o_game_known u2.2.1 u2.2.2 o_game_list r_o_trial_board o_trial_made o_trial_known o_trial_stones0 o_trial_stones1 o_trial_list o_slots o_paths_layers o_table_count o_table_wins r_o_contest_board o_contest_from o_contest_to o_contest_spots o_contest_memo o_foundBridges o_threatPlayers o_threatRegions o_text) := hD.sub [0, 15, 16, 1, 2, 3, 4, 5, 6, 7, 8, 9, 10, 11, 12, 13, 14] rfl rfl
    refine lv_aload_n hx hb dX5_again_27 rfl (lv_at hl 0 rfl) ?_
    refine va_get (D := D) (ci := 5) (v := .ref a1) (C := RX5) (T := TX5) (N := 12) hx hb hts inX5 hown hK hP 0 rfl rfl 0 (by decide) (hts _ q_137) (fun _ h9 => h9) rfl dX5_again_28 ?_
    refine va_get (D := D) (ci := 3) (v := .int u2.1) (C := RX3) (T := TX3) (N := 6) hx hb hts inX3 hown hK hP 1 rfl rfl 1 (by decide) (hts _ q_96) (fun _ h9 => h9) rfl dX5_again_31 ?_
    refine lv_iconst (v := (1 : Int32)) hx hb dX5_again_34 (by decide) ?_
    refine lv_isub hx hb dX5_again_35 ?_
    have hf := Option.some.inj hf
    subst hf
    exact rWi hc rfl hP hD hS dX5_again_36
  · have hf := if_t hf c1
    refine lv_bipush (v := (-13 : Int32)) hx hb dX5_again_17 (by decide) ?_
    have hf := Option.some.inj hf
    subst hf
    exact rWi hc rfl hP hD hS dX5_again_19
abbrev R_X5_moves : Room := { frames := 0, cells := 0, slots := 0, locals := 0 }
def m_X5_moves (o_game_made : Int32) : Int32 := o_game_made
set_option maxHeartbeats 4000000 in
set_option maxRecDepth 100000 in
theorem c_X5_moves (l : Launch) (D : va_G) (C : Nat → ClassId) (z0 : Nat) (z1 : Nat) (r_o_trial : Nat) (r_o_slots : Nat) (r_o_paths : Nat) (r_o_table : Nat) (r_o_contest : Nat) (r_o_foundBridges : Nat) (r_o_threatPlayers : Nat) (r_o_threatRegions : Nat) (o_threatCount : Int32) (r_o_text : Nat) (o_textLength : Int32) (r_o_game_board : Nat) (o_game_made : Int32) (o_game_known : Int32) (r_o_game_list : Nat) (o_game_stones0 : Int64) (o_game_stones1 : Int64) (o : Int32) (hf : m_X5_moves o_game_made = o) : Met l yX5_moves (wl yX5_moves cX5_moves 1 (some .int)) R_X5_moves (PR [.ref z0] D C [cX5 z0 z1 r_o_trial r_o_slots r_o_paths r_o_table r_o_contest r_o_foundBridges r_o_threatPlayers r_o_threatRegions o_threatCount r_o_text o_textLength, cX3 z1 r_o_game_board o_game_made o_game_known r_o_game_list o_game_stones0 o_game_stones1]) (vp_Si (fun r => r = o)) 0 0 (fun _ => False) := by
  refine Met_ofC (by decide) ?_
  intro p e s m args below meth c hc hv
  obtain ⟨rfl, hP, hK⟩ := hv
  have hx := hc.1
  have hb := hc.2.1
  have hown := hc.2.2.2.2.1
  have hts := hc.2.2.2.2.2.1
  refine en_F rfl (fun ls hl => ?_)
  have hl : lv_has ls 1 [(0, .ref z0)] := hl
  refine lv_aload_n hx hb dX5_moves_0 rfl (lv_at hl 0 rfl) ?_
  refine va_get (D := D) (ci := 5) (v := .ref z1) (C := RX5) (T := TX5) (N := 12) hx hb hts inX5 hown hK hP 0 rfl rfl 0 (by decide) (hts _ q_137) (fun _ h9 => h9) rfl dX5_moves_1 ?_
  refine va_get (D := D) (ci := 3) (v := .int o_game_made) (C := RX3) (T := TX3) (N := 6) hx hb hts inX3 hown hK hP 1 rfl rfl 1 (by decide) (hts _ q_96) (fun _ h9 => h9) rfl dX5_moves_4 ?_
  exact rRi hc hf dX5_moves_7
abbrev R_X5_moveAt : Room := { frames := 1, cells := 0, slots := 0, locals := 21 }
def m_X5_moveAt (o_game_made : Int32) (o_game_list : Nat → Int32) (p1 : Int32) : Option (Int32) := (if p1 < 0 then some (-11 : Int32) else (if p1 < o_game_made then ((m_X3_moveNumber o_game_list p1).bind fun u3 => some u3) else some (-11 : Int32)))
set_option maxHeartbeats 4000000 in
set_option maxRecDepth 100000 in
theorem c_X5_moveAt (l : Launch) (D : va_G) (C : Nat → ClassId) (z0 : Nat) (z1 : Nat) (z2 : Nat) (r_o_trial : Nat) (r_o_slots : Nat) (r_o_paths : Nat) (r_o_table : Nat) (r_o_contest : Nat) (r_o_foundBridges : Nat) (r_o_threatPlayers : Nat) (r_o_threatRegions : Nat) (o_threatCount : Int32) (r_o_text : Nat) (o_textLength : Int32) (r_o_game_board : Nat) (o_game_made : Int32) (o_game_known : Int32) (o_game_stones0 : Int64) (o_game_stones1 : Int64) (o_game_list : Nat → Int32) (p1 : Int32) (o : Int32) (hf : m_X5_moveAt o_game_made o_game_list p1 = some o) : Met l yX5_moveAt (wl yX5_moveAt cX5_moveAt 2 (some .int)) R_X5_moveAt (PR [.ref z0, .int p1] D C [cX5 z0 z1 r_o_trial r_o_slots r_o_paths r_o_table r_o_contest r_o_foundBridges r_o_threatPlayers r_o_threatRegions o_threatCount r_o_text o_textLength, cX3 z1 r_o_game_board o_game_made o_game_known z2 o_game_stones0 o_game_stones1, aI C z2 50 o_game_list]) (vp_Si (fun r => r = o)) 0 0 (fun _ => False) := by
  refine Met_ofC (by decide) ?_
  intro p e s m args below meth c hc hv
  obtain ⟨rfl, hP, hK⟩ := hv
  have hx := hc.1
  have hb := hc.2.1
  have hown := hc.2.2.2.2.1
  have hts := hc.2.2.2.2.2.1
  refine en_F rfl (fun ls hl => ?_)
  have hl : lv_has ls 2 [(0, .ref z0), (1, .int p1)] := hl
  refine lv_iload_n hx hb dX5_moveAt_0 rfl (lv_at hl 1 rfl) ?_
  refine lv_if_lt (tgt := 15) hx hb dX5_moveAt_1 (by decide) (fun c1 => ?_) (fun c1 => ?_)
  · have hf := if_t hf c1
    refine lv_bipush (v := (-11 : Int32)) hx hb dX5_moveAt_15 (by decide) ?_
    exact rRi hc (Option.some.inj hf) dX5_moveAt_17
  · have hf := if_f hf c1
    refine lv_iload_n hx hb dX5_moveAt_4 rfl (lv_at hl 1 rfl) ?_
    refine lv_aload_n hx hb dX5_moveAt_5 rfl (lv_at hl 0 rfl) ?_
    refine va_get (D := D) (ci := 5) (v := .ref z1) (C := RX5) (T := TX5) (N := 12) hx hb hts inX5 hown hK hP 0 rfl rfl 0 (by decide) (hts _ q_137) (fun _ h9 => h9) rfl dX5_moveAt_6 ?_
    refine va_get (D := D) (ci := 3) (v := .int o_game_made) (C := RX3) (T := TX3) (N := 6) hx hb hts inX3 hown hK hP 1 rfl rfl 1 (by decide) (hts _ q_96) (fun _ h9 => h9) rfl dX5_moveAt_9 ?_
    refine lv_icmp_lt (tgt := 18) hx hb dX5_moveAt_12 (by decide) (fun c2 => ?_) (fun c2 => ?_)
    · have hf := if_t hf c2
      refine lv_aload_n hx hb dX5_moveAt_18 rfl (lv_at hl 0 rfl) ?_
      refine va_get (D := D) (ci := 5) (v := .ref z1) (C := RX5) (T := TX5) (N := 12) hx hb hts inX5 hown hK hP 0 rfl rfl 0 (by decide) (hts _ q_137) (fun _ h9 => h9) rfl dX5_moveAt_19 ?_
      refine lv_iload_n hx hb dX5_moveAt_22 rfl (lv_at hl 1 rfl) ?_
      obtain ⟨u3, hu3, hf⟩ := bind_some hf
      refine rcVi (As := [.int p1]) (rest := []) hc k_X5_118 (c_X3_moveNumber l D C z1 z2 r_o_game_board o_game_made o_game_known o_game_stones0 o_game_stones1 o_game_list p1  _ hu3) ⟨rfl, rfl, Nat.le_of_ble_eq_true rfl, Nat.le_of_ble_eq_true rfl⟩ (hP.sub [1, 2] rfl) hK (q0 := 0) rfl rfl rfl hl rfl rfl (Nat.le_of_ble_eq_true rfl) ⟨Nat.zero_le _, Nat.zero_le _⟩ dX5_moveAt_23 ?_
      exact rRi hc (Option.some.inj hf) dX5_moveAt_26
    · have hf := if_f hf c2
      refine lv_bipush (v := (-11 : Int32)) hx hb dX5_moveAt_15 (by decide) ?_
      exact rRi hc (Option.some.inj hf) dX5_moveAt_17
abbrev R_X5_turn : Room := { frames := 1, cells := 0, slots := 0, locals := 20 }
def m_X5_turn (o_game_made : Int32) : Int32 := (m_X3_mover o_game_made)
set_option maxHeartbeats 4000000 in
set_option maxRecDepth 100000 in
theorem c_X5_turn (l : Launch) (D : va_G) (C : Nat → ClassId) (z0 : Nat) (z1 : Nat) (r_o_trial : Nat) (r_o_slots : Nat) (r_o_paths : Nat) (r_o_table : Nat) (r_o_contest : Nat) (r_o_foundBridges : Nat) (r_o_threatPlayers : Nat) (r_o_threatRegions : Nat) (o_threatCount : Int32) (r_o_text : Nat) (o_textLength : Int32) (r_o_game_board : Nat) (o_game_made : Int32) (o_game_known : Int32) (r_o_game_list : Nat) (o_game_stones0 : Int64) (o_game_stones1 : Int64) (o : Int32) (hf : m_X5_turn o_game_made = o) : Met l yX5_turn (wl yX5_turn cX5_turn 1 (some .int)) R_X5_turn (PR [.ref z0] D C [cX5 z0 z1 r_o_trial r_o_slots r_o_paths r_o_table r_o_contest r_o_foundBridges r_o_threatPlayers r_o_threatRegions o_threatCount r_o_text o_textLength, cX3 z1 r_o_game_board o_game_made o_game_known r_o_game_list o_game_stones0 o_game_stones1]) (vp_Si (fun r => r = o)) 0 0 (fun _ => False) := by
  refine Met_ofC (by decide) ?_
  intro p e s m args below meth c hc hv
  obtain ⟨rfl, hP, hK⟩ := hv
  have hx := hc.1
  have hb := hc.2.1
  have hown := hc.2.2.2.2.1
  have hts := hc.2.2.2.2.2.1
  refine en_F rfl (fun ls hl => ?_)
  have hl : lv_has ls 1 [(0, .ref z0)] := hl
  refine lv_aload_n hx hb dX5_turn_0 rfl (lv_at hl 0 rfl) ?_
  refine va_get (D := D) (ci := 5) (v := .ref z1) (C := RX5) (T := TX5) (N := 12) hx hb hts inX5 hown hK hP 0 rfl rfl 0 (by decide) (hts _ q_137) (fun _ h9 => h9) rfl dX5_turn_1 ?_
  refine rcVi (As := []) (rest := []) hc k_X5_122 (c_X3_mover l D C z1 r_o_game_board o_game_made o_game_known r_o_game_list o_game_stones0 o_game_stones1  _ rfl) ⟨rfl, rfl, Nat.le_of_ble_eq_true rfl, Nat.le_of_ble_eq_true rfl⟩ (hP.sub [1] rfl) hK (q0 := 0) rfl rfl rfl hl rfl rfl (Nat.le_of_ble_eq_true rfl) ⟨Nat.zero_le _, Nat.zero_le _⟩ dX5_turn_4 ?_
  exact rRi hc hf dX5_turn_7
abbrev R_X5_winner : Room := { frames := 4, cells := 0, slots := 0, locals := 103 }
def m_X5_winner (o_game_stones0 : Int64) (o_game_stones1 : Int64) (o_game_board_size : Int32) (o_game_board_cells : Int32) (o_game_board_all : Int64) (o_game_board_upper : Int64) (o_game_board_lower : Int64) (o_game_board_left : Int64) (o_game_board_right : Int64) : Option (Int32) := ((m_X3_victor o_game_stones0 o_game_stones1 o_game_board_size o_game_board_cells o_game_board_all o_game_board_upper o_game_board_lower o_game_board_left o_game_board_right).bind fun u1 => some u1)
set_option maxHeartbeats 4000000 in
set_option maxRecDepth 100000 in
theorem c_X5_winner (l : Launch) (D : va_G) (C : Nat → ClassId) (z0 : Nat) (z1 : Nat) (z2 : Nat) (r_o_trial : Nat) (r_o_slots : Nat) (r_o_paths : Nat) (r_o_table : Nat) (r_o_contest : Nat) (r_o_foundBridges : Nat) (r_o_threatPlayers : Nat) (r_o_threatRegions : Nat) (o_threatCount : Int32) (r_o_text : Nat) (o_textLength : Int32) (o_game_made : Int32) (o_game_known : Int32) (r_o_game_list : Nat) (o_game_stones0 : Int64) (o_game_stones1 : Int64) (o_game_board_size : Int32) (o_game_board_cells : Int32) (o_game_board_all : Int64) (o_game_board_upper : Int64) (o_game_board_lower : Int64) (o_game_board_left : Int64) (o_game_board_right : Int64) (o : Int32) (hf : m_X5_winner o_game_stones0 o_game_stones1 o_game_board_size o_game_board_cells o_game_board_all o_game_board_upper o_game_board_lower o_game_board_left o_game_board_right = some o) : Met l yX5_winner (wl yX5_winner cX5_winner 1 (some .int)) R_X5_winner (PR [.ref z0] D C [cX5 z0 z1 r_o_trial r_o_slots r_o_paths r_o_table r_o_contest r_o_foundBridges r_o_threatPlayers r_o_threatRegions o_threatCount r_o_text o_textLength, cX3 z1 z2 o_game_made o_game_known r_o_game_list o_game_stones0 o_game_stones1, cX0 z2 o_game_board_size o_game_board_cells o_game_board_all o_game_board_upper o_game_board_lower o_game_board_left o_game_board_right]) (vp_Si (fun r => r = o)) 0 0 (fun _ => False) := by
  refine Met_ofC (by decide) ?_
  intro p e s m args below meth c hc hv
  obtain ⟨rfl, hP, hK⟩ := hv
  have hx := hc.1
  have hb := hc.2.1
  have hown := hc.2.2.2.2.1
  have hts := hc.2.2.2.2.2.1
  refine en_F rfl (fun ls hl => ?_)
  have hl : lv_has ls 1 [(0, .ref z0)] := hl
  refine lv_aload_n hx hb dX5_winner_0 rfl (lv_at hl 0 rfl) ?_
  refine va_get (D := D) (ci := 5) (v := .ref z1) (C := RX5) (T := TX5) (N := 12) hx hb hts inX5 hown hK hP 0 rfl rfl 0 (by decide) (hts _ q_137) (fun _ h9 => h9) rfl dX5_winner_1 ?_
  obtain ⟨u1, hu1, hf⟩ := bind_some hf
  refine rcVi (As := []) (rest := []) hc k_X5_87 (c_X3_victor l D C z1 z2 o_game_made o_game_known r_o_game_list o_game_stones0 o_game_stones1 o_game_board_size o_game_board_cells o_game_board_all o_game_board_upper o_game_board_lower o_game_board_left o_game_board_right  _ hu1) ⟨rfl, rfl, Nat.le_of_ble_eq_true rfl, Nat.le_of_ble_eq_true rfl⟩ (hP.sub [1, 2] rfl) hK (q0 := 0) rfl rfl rfl hl rfl rfl (Nat.le_of_ble_eq_true rfl) ⟨Nat.zero_le _, Nat.zero_le _⟩ dX5_winner_4 ?_
  exact rRi hc (Option.some.inj hf) dX5_winner_7
abbrev R_X5_isPlayer : Room := { frames := 0, cells := 0, slots := 0, locals := 0 }
def m_X5_isPlayer (p0 : Int32) : Int32 := (if p0 = 0 then (1 : Int32) else (if p0 = (1 : Int32) then (1 : Int32) else (0 : Int32)))
set_option maxHeartbeats 4000000 in
set_option maxRecDepth 100000 in
theorem c_X5_isPlayer (l : Launch) (D : va_G) (C : Nat → ClassId) (p0 : Int32) (o : Int32) (hf : m_X5_isPlayer p0 = o) : Met l yX5_isPlayer (wl yX5_isPlayer cX5_isPlayer 1 (some .boolean)) R_X5_isPlayer (PR [.int p0] D C ([] : va_W)) (vp_Si (fun r => r = o)) 0 0 (fun _ => False) := by
  refine Met_ofC (by decide) ?_
  intro p e s m args below meth c hc hv
  obtain ⟨rfl, hP, hK⟩ := hv
  have hx := hc.1
  have hb := hc.2.1
  have hown := hc.2.2.2.2.1
  have hts := hc.2.2.2.2.2.1
  refine en_F rfl (fun ls hl => ?_)
  have hl : lv_has ls 1 [(0, .int p0)] := hl
  refine lv_iload_n hx hb dX5_isPlayer_0 rfl (lv_at hl 0 rfl) ?_
  refine lv_if_eq (tgt := 9) hx hb dX5_isPlayer_1 (by decide) (fun c1 => ?_) (fun c1 => ?_)
  · have hf := if_t hf c1
    refine lv_iconst (v := (1 : Int32)) hx hb dX5_isPlayer_9 (by decide) ?_
    refine lv_goto (tgt := 14) hx hb dX5_isPlayer_10 (by decide) ?_
    exact rRz hc rfl hf dX5_isPlayer_14
  · have hf := if_f hf c1
    refine lv_iload_n hx hb dX5_isPlayer_4 rfl (lv_at hl 0 rfl) ?_
    refine lv_iconst (v := (1 : Int32)) hx hb dX5_isPlayer_5 (by decide) ?_
    refine lv_icmp_ne (tgt := 13) hx hb dX5_isPlayer_6 (by decide) (fun c2 => ?_) (fun c2 => ?_)
    · have hf := if_f hf c2
      refine lv_iconst (v := (0 : Int32)) hx hb dX5_isPlayer_13 (by decide) ?_
      exact rRz hc rfl hf dX5_isPlayer_14
    · have hf := if_t hf c2
      refine lv_iconst (v := (1 : Int32)) hx hb dX5_isPlayer_9 (by decide) ?_
      refine lv_goto (tgt := 14) hx hb dX5_isPlayer_10 (by decide) ?_
      exact rRz hc rfl hf dX5_isPlayer_14
abbrev R_X5_stones : Room := { frames := 1, cells := 0, slots := 0, locals := 21 }
def m_X5_stones (o_game_stones0 : Int64) (o_game_stones1 : Int64) (p1 : Int32) : Int64 := (if (m_X5_isPlayer p1) = 0 then (-11 : Int64) else (m_X3_stonesOf o_game_stones0 o_game_stones1 p1))
set_option maxHeartbeats 4000000 in
set_option maxRecDepth 100000 in
theorem c_X5_stones (l : Launch) (D : va_G) (C : Nat → ClassId) (z0 : Nat) (z1 : Nat) (r_o_trial : Nat) (r_o_slots : Nat) (r_o_paths : Nat) (r_o_table : Nat) (r_o_contest : Nat) (r_o_foundBridges : Nat) (r_o_threatPlayers : Nat) (r_o_threatRegions : Nat) (o_threatCount : Int32) (r_o_text : Nat) (o_textLength : Int32) (r_o_game_board : Nat) (o_game_made : Int32) (o_game_known : Int32) (r_o_game_list : Nat) (o_game_stones0 : Int64) (o_game_stones1 : Int64) (p1 : Int32) (o : Int64) (hf : m_X5_stones o_game_stones0 o_game_stones1 p1 = o) : Met l yX5_stones (wl yX5_stones cX5_stones 2 (some .long)) R_X5_stones (PR [.ref z0, .int p1] D C [cX5 z0 z1 r_o_trial r_o_slots r_o_paths r_o_table r_o_contest r_o_foundBridges r_o_threatPlayers r_o_threatRegions o_threatCount r_o_text o_textLength, cX3 z1 r_o_game_board o_game_made o_game_known r_o_game_list o_game_stones0 o_game_stones1]) (vp_Sl (fun r => r = o)) 0 0 (fun _ => False) := by
  refine Met_ofC (by decide) ?_
  intro p e s m args below meth c hc hv
  obtain ⟨rfl, hP, hK⟩ := hv
  have hx := hc.1
  have hb := hc.2.1
  have hown := hc.2.2.2.2.1
  have hts := hc.2.2.2.2.2.1
  refine en_F rfl (fun ls hl => ?_)
  have hl : lv_has ls 2 [(0, .ref z0), (1, .int p1)] := hl
  refine lv_iload_n hx hb dX5_stones_0 rfl (lv_at hl 1 rfl) ?_
  refine rcSi (As := [.int p1]) (rest := []) hc k_X5_125 (c_X5_isPlayer l D C p1  _ rfl) ⟨rfl, rfl, Nat.le_of_ble_eq_true rfl, Nat.le_of_ble_eq_true rfl⟩ (hP.sub [] rfl) hK hl rfl rfl (Nat.le_of_ble_eq_true rfl) ⟨Nat.zero_le _, Nat.zero_le _⟩ dX5_stones_1 ?_
  refine lv_if_ne (tgt := 11) hx hb dX5_stones_4 (by decide) (fun c1 => ?_) (fun c1 => ?_)
  · have hf := if_f hf c1
    refine lv_aload_n hx hb dX5_stones_11 rfl (lv_at hl 0 rfl) ?_
    refine va_get (D := D) (ci := 5) (v := .ref z1) (C := RX5) (T := TX5) (N := 12) hx hb hts inX5 hown hK hP 0 rfl rfl 0 (by decide) (hts _ q_137) (fun _ h9 => h9) rfl dX5_stones_12 ?_
    refine lv_iload_n hx hb dX5_stones_15 rfl (lv_at hl 1 rfl) ?_
    refine rcVl (As := [.int p1]) (rest := []) hc k_X5_101 (c_X3_stonesOf l D C z1 r_o_game_board o_game_made o_game_known r_o_game_list o_game_stones0 o_game_stones1 p1  _ rfl) ⟨rfl, rfl, Nat.le_of_ble_eq_true rfl, Nat.le_of_ble_eq_true rfl⟩ (hP.sub [1] rfl) hK (q0 := 0) rfl rfl rfl hl rfl rfl (Nat.le_of_ble_eq_true rfl) ⟨Nat.zero_le _, Nat.zero_le _⟩ dX5_stones_16 ?_
    exact rRl hc hf dX5_stones_19
  · have hf := if_t hf c1
    refine lv_ldc2 (v := (-11 : Int64)) hx hb hown (hts _ q_302) dX5_stones_7 ?_
    exact rRl hc hf dX5_stones_10
abbrev R_X5_beside : Room := { frames := 1, cells := 0, slots := 0, locals := 26 }
def m_X5_beside (o_game_board_size : Int32) (o_game_board_cells : Int32) (o_game_board_all : Int64) (o_game_board_left : Int64) (o_game_board_right : Int64) (p1 : Int32) : Int64 := (if (m_X5_isCell o_game_board_cells p1) = 0 then (-11 : Int64) else (m_X0_around o_game_board_size o_game_board_all o_game_board_left o_game_board_right (jshl (1 : Int64) p1)))
set_option maxHeartbeats 4000000 in
set_option maxRecDepth 100000 in
theorem c_X5_beside (l : Launch) (D : va_G) (C : Nat → ClassId) (z0 : Nat) (z1 : Nat) (z2 : Nat) (r_o_trial : Nat) (r_o_slots : Nat) (r_o_paths : Nat) (r_o_table : Nat) (r_o_contest : Nat) (r_o_foundBridges : Nat) (r_o_threatPlayers : Nat) (r_o_threatRegions : Nat) (o_threatCount : Int32) (r_o_text : Nat) (o_textLength : Int32) (o_game_made : Int32) (o_game_known : Int32) (r_o_game_list : Nat) (o_game_stones0 : Int64) (o_game_stones1 : Int64) (o_game_board_size : Int32) (o_game_board_cells : Int32) (o_game_board_all : Int64) (o_game_board_upper : Int64) (o_game_board_lower : Int64) (o_game_board_left : Int64) (o_game_board_right : Int64) (p1 : Int32) (o : Int64) (hf : m_X5_beside o_game_board_size o_game_board_cells o_game_board_all o_game_board_left o_game_board_right p1 = o) : Met l yX5_beside (wl yX5_beside cX5_beside 2 (some .long)) R_X5_beside (PR [.ref z0, .int p1] D C [cX5 z0 z1 r_o_trial r_o_slots r_o_paths r_o_table r_o_contest r_o_foundBridges r_o_threatPlayers r_o_threatRegions o_threatCount r_o_text o_textLength, cX3 z1 z2 o_game_made o_game_known r_o_game_list o_game_stones0 o_game_stones1, cX0 z2 o_game_board_size o_game_board_cells o_game_board_all o_game_board_upper o_game_board_lower o_game_board_left o_game_board_right]) (vp_Sl (fun r => r = o)) 0 0 (fun _ => False) := by
  refine Met_ofC (by decide) ?_
  intro p e s m args below meth c hc hv
  obtain ⟨rfl, hP, hK⟩ := hv
  have hx := hc.1
  have hb := hc.2.1
  have hown := hc.2.2.2.2.1
  have hts := hc.2.2.2.2.2.1
  refine en_F rfl (fun ls hl => ?_)
  have hl : lv_has ls 2 [(0, .ref z0), (1, .int p1)] := hl
  refine lv_aload_n hx hb dX5_beside_0 rfl (lv_at hl 0 rfl) ?_
  refine lv_iload_n hx hb dX5_beside_1 rfl (lv_at hl 1 rfl) ?_
  refine rcVi (As := [.int p1]) (rest := []) hc k_X5_80 (c_X5_isCell l D C z0 z1 z2 r_o_trial r_o_slots r_o_paths r_o_table r_o_contest r_o_foundBridges r_o_threatPlayers r_o_threatRegions o_threatCount r_o_text o_textLength o_game_made o_game_known r_o_game_list o_game_stones0 o_game_stones1 o_game_board_size o_game_board_cells o_game_board_all o_game_board_upper o_game_board_lower o_game_board_left o_game_board_right p1  _ rfl) ⟨rfl, rfl, Nat.le_of_ble_eq_true rfl, Nat.le_of_ble_eq_true rfl⟩ (hP.sub [0, 1, 2] rfl) hK (q0 := 0) rfl rfl rfl hl rfl rfl (Nat.le_of_ble_eq_true rfl) ⟨Nat.zero_le _, Nat.zero_le _⟩ dX5_beside_2 ?_
  refine lv_if_ne (tgt := 12) hx hb dX5_beside_5 (by decide) (fun c1 => ?_) (fun c1 => ?_)
  · have hf := if_f hf c1
    refine lv_aload_n hx hb dX5_beside_12 rfl (lv_at hl 0 rfl) ?_
    refine va_get (D := D) (ci := 5) (v := .ref z1) (C := RX5) (T := TX5) (N := 12) hx hb hts inX5 hown hK hP 0 rfl rfl 0 (by decide) (hts _ q_137) (fun _ h9 => h9) rfl dX5_beside_13 ?_
    refine va_get (D := D) (ci := 3) (v := .ref z2) (C := RX3) (T := TX3) (N := 6) hx hb hts inX3 hown hK hP 1 rfl rfl 0 (by decide) (hts _ q_94) (fun _ h9 => h9) rfl dX5_beside_16 ?_
    refine lv_lconst (v := (1 : Int64)) hx hb dX5_beside_19 (by decide) ?_
    refine lv_iload_n hx hb dX5_beside_20 rfl (lv_at hl 1 rfl) ?_
    refine lv_lshl (v := (jshl (1 : Int64) p1)) hx hb dX5_beside_21 rfl ?_
    refine rcVl (As := [.long (jshl (1 : Int64) p1)]) (rest := []) hc k_X5_130 (c_X0_around l D C z2 o_game_board_size o_game_board_cells o_game_board_all o_game_board_upper o_game_board_lower o_game_board_left o_game_board_right (jshl (1 : Int64) p1)  _ rfl) ⟨rfl, rfl, Nat.le_of_ble_eq_true rfl, Nat.le_of_ble_eq_true rfl⟩ (hP.sub [2] rfl) hK (q0 := 0) rfl rfl rfl hl rfl rfl (Nat.le_of_ble_eq_true rfl) ⟨Nat.zero_le _, Nat.zero_le _⟩ dX5_beside_22 ?_
    exact rRl hc hf dX5_beside_25
  · have hf := if_t hf c1
    refine lv_ldc2 (v := (-11 : Int64)) hx hb hown (hts _ q_302) dX5_beside_8 ?_
    exact rRl hc hf dX5_beside_11
abbrev R_X5_chains : Room := { frames := 3, cells := 0, slots := 0, locals := 81 }
def m_X5_chains_c25 (o_game_board_size : Int32) (o_game_board_cells : Int32) (o_game_board_all : Int64) (o_game_board_left : Int64) (o_game_board_right : Int64)  : Nat → Int64 → Int32 → Int32 → Option (Int32)
  | 0, _, _, _ => none
  | n + 1, v2, v4, v5 => (if (49 : Int32) ≤ v5 then some v4 else (if v2 = (0 : Int64) then some v4 else ((m_X0_flood o_game_board_size o_game_board_cells o_game_board_all o_game_board_left o_game_board_right (v2 &&& (-v2)) v2).bind fun u4 => (m_X5_chains_c25 o_game_board_size o_game_board_cells o_game_board_all o_game_board_left o_game_board_right  n (v2 &&& (u4 ^^^ (-1 : Int64))) (v4 + (1 : Int32)) (v5 + (1 : Int32))))))
set_option maxHeartbeats 4000000 in
set_option maxRecDepth 100000 in
theorem w_X5_chains_c25 {p : Program} {l : Launch} {e : Env} {s : State} {m : MethodId} {args : Array Value} {below : List Frame} {meth : Method} {c : Code} {D : va_G} {C : Nat → ClassId} {z0 : Nat} {z1 : Nat} {z2 : Nat} {r_o_trial : Nat} {r_o_slots : Nat} {r_o_paths : Nat} {r_o_table : Nat} {r_o_contest : Nat} {r_o_foundBridges : Nat} {r_o_threatPlayers : Nat} {r_o_threatRegions : Nat} {o_threatCount : Int32} {r_o_text : Nat} {o_textLength : Int32} {o_game_made : Int32} {o_game_known : Int32} {r_o_game_list : Nat} {o_game_stones0 : Int64} {o_game_stones1 : Int64} {o_game_board_size : Int32} {o_game_board_cells : Int32} {o_game_board_all : Int64} {o_game_board_upper : Int64} {o_game_board_lower : Int64} {o_game_board_left : Int64} {o_game_board_right : Int64} {o : Int32} (hc : Cx p s m args meth c yX5_chains cX5_chains 6 (some .int)) (hK : va_K D vwCl (TY C) s) (hP : va_P D vwCl [cX5 z0 z1 r_o_trial r_o_slots r_o_paths r_o_table r_o_contest r_o_foundBridges r_o_threatPlayers r_o_threatRegions o_threatCount r_o_text o_textLength, cX3 z1 z2 o_game_made o_game_known r_o_game_list o_game_stones0 o_game_stones1, cX0 z2 o_game_board_size o_game_board_cells o_game_board_all o_game_board_upper o_game_board_lower o_game_board_left o_game_board_right] s.heap) : ∀ (n : Nat), ∀ (v2 : Int64) (v4 : Int32) (v5 : Int32), m_X5_chains_c25 o_game_board_size o_game_board_cells o_game_board_all o_game_board_left o_game_board_right  n v2 v4 v5 = some o → ∀ (ls : Array Slot), lv_has ls 6 [(0, .ref z0), (2, .long v2), (4, .int v4), (5, .int v5)] → W p l e R_X5_chains s m args below meth c s.heap [] 0 0 (MQ below (vp_Si (fun r => r = o)) args s 0 0 (fun _ => False)) (F0 m 25 ls []) := by
  have hx := hc.1
  have hb := hc.2.1
  have hown := hc.2.2.2.2.1
  have hts := hc.2.2.2.2.2.1
  intro n
  induction n with
  | zero =>
    intro v2 v4 v5 hf
    exact no_some hf
  | succ n ih =>
    intro v2 v4 v5 hf ls hl
    refine lv_iload hx hb dX5_chains_25 (lv_at hl 3 rfl) ?_
    refine lv_bipush (v := (49 : Int32)) hx hb dX5_chains_27 (by decide) ?_
    refine lv_icmp_ge (tgt := 69) hx hb dX5_chains_29 (by decide) (fun c2 => ?_) (fun c2 => ?_)
    · have hf := if_t hf c2
      refine lv_iload hx hb dX5_chains_69 (lv_at hl 2 rfl) ?_
      exact rRi hc (Option.some.inj hf) dX5_chains_71
    · have hf := if_f hf c2
      refine lv_lload_n hx hb dX5_chains_32 rfl (lv_at hl 1 rfl) ?_
      refine lv_lconst (v := (0 : Int64)) hx hb dX5_chains_33 (by decide) ?_
      refine lc_eq (tgt := 69) hx hb dX5_chains_34 dX5_chains_35 (by decide) (fun c3 => ?_) (fun c3 => ?_)
      · have hf := if_t hf c3
        refine lv_iload hx hb dX5_chains_69 (lv_at hl 2 rfl) ?_
        exact rRi hc (Option.some.inj hf) dX5_chains_71
      · have hf := if_f hf c3
        refine lv_lload_n hx hb dX5_chains_38 rfl (lv_at hl 1 rfl) ?_
        refine lv_aload_n hx hb dX5_chains_39 rfl (lv_at hl 0 rfl) ?_
        refine va_get (D := D) (ci := 5) (v := .ref z1) (C := RX5) (T := TX5) (N := 12) hx hb hts inX5 hown hK hP 0 rfl rfl 0 (by decide) (hts _ q_137) (fun _ h9 => h9) rfl dX5_chains_40 ?_
        refine va_get (D := D) (ci := 3) (v := .ref z2) (C := RX3) (T := TX3) (N := 6) hx hb hts inX3 hown hK hP 1 rfl rfl 0 (by decide) (hts _ q_94) (fun _ h9 => h9) rfl dX5_chains_43 ?_
        refine lv_lload_n hx hb dX5_chains_46 rfl (lv_at hl 1 rfl) ?_
        refine lv_lload_n hx hb dX5_chains_47 rfl (lv_at hl 1 rfl) ?_
        refine lv_lneg hx hb dX5_chains_48 ?_
        refine lv_land hx hb dX5_chains_49 ?_
        refine lv_lload_n hx hb dX5_chains_50 rfl (lv_at hl 1 rfl) ?_
        obtain ⟨u4, hu4, hf⟩ := bind_some hf
        refine rcVl (As := [.long (v2 &&& (-v2)), .long v2]) (rest := [.long v2]) hc k_X5_134 (c_X0_flood l D C z2 o_game_board_size o_game_board_cells o_game_board_all o_game_board_upper o_game_board_lower o_game_board_left o_game_board_right (v2 &&& (-v2)) v2  _ hu4) ⟨rfl, rfl, Nat.le_of_ble_eq_true rfl, Nat.le_of_ble_eq_true rfl⟩ (hP.sub [2] rfl) hK (q0 := 0) rfl rfl rfl hl rfl rfl (Nat.le_of_ble_eq_true rfl) ⟨Nat.zero_le _, Nat.zero_le _⟩ dX5_chains_51 ?_
        refine lv_ldc2 (v := (-1 : Int64)) hx hb hown (hts _ q_316) dX5_chains_54 ?_
        refine lv_lxor hx hb dX5_chains_57 ?_
        refine lv_land hx hb dX5_chains_58 ?_
        refine lv_lstore_n (lv' := [(2, .long (v2 &&& (u4 ^^^ (-1 : Int64)))), (0, .ref z0), (4, .int v4), (5, .int v5)]) hx hb dX5_chains_59 rfl hl (by decide) rfl (fun ls hl => ?_)
        refine lv_iinc (v := (v4 + (1 : Int32))) (lv' := [(4, .int (v4 + (1 : Int32))), (2, .long (v2 &&& (u4 ^^^ (-1 : Int64)))), (0, .ref z0), (5, .int v5)]) hx hb dX5_chains_60 hl (k := 2) rfl rfl (by decide) rfl (fun ls hl => ?_)
        refine lv_iinc (v := (v5 + (1 : Int32))) (lv' := [(5, .int (v5 + (1 : Int32))), (4, .int (v4 + (1 : Int32))), (2, .long (v2 &&& (u4 ^^^ (-1 : Int64)))), (0, .ref z0)]) hx hb dX5_chains_63 hl (k := 3) rfl rfl (by decide) rfl (fun ls hl => ?_)
        refine lv_goto (tgt := 25) hx hb dX5_chains_66 (by decide) ?_
        exact ih (v2 &&& (u4 ^^^ (-1 : Int64))) (v4 + (1 : Int32)) (v5 + (1 : Int32)) hf ls (lv_sub hl [3, 2, 1, 0] rfl)
def m_X5_chains (o_game_stones0 : Int64) (o_game_stones1 : Int64) (o_game_board_size : Int32) (o_game_board_cells : Int32) (o_game_board_all : Int64) (o_game_board_left : Int64) (o_game_board_right : Int64) (p1 : Int32) : Option (Int32) := (if (m_X5_isPlayer p1) = 0 then some (-11 : Int32) else (m_X5_chains_c25 o_game_board_size o_game_board_cells o_game_board_all o_game_board_left o_game_board_right FU (m_X3_stonesOf o_game_stones0 o_game_stones1 p1) (0 : Int32) (0 : Int32)))
set_option maxHeartbeats 4000000 in
set_option maxRecDepth 100000 in
theorem c_X5_chains (l : Launch) (D : va_G) (C : Nat → ClassId) (z0 : Nat) (z1 : Nat) (z2 : Nat) (r_o_trial : Nat) (r_o_slots : Nat) (r_o_paths : Nat) (r_o_table : Nat) (r_o_contest : Nat) (r_o_foundBridges : Nat) (r_o_threatPlayers : Nat) (r_o_threatRegions : Nat) (o_threatCount : Int32) (r_o_text : Nat) (o_textLength : Int32) (o_game_made : Int32) (o_game_known : Int32) (r_o_game_list : Nat) (o_game_stones0 : Int64) (o_game_stones1 : Int64) (o_game_board_size : Int32) (o_game_board_cells : Int32) (o_game_board_all : Int64) (o_game_board_upper : Int64) (o_game_board_lower : Int64) (o_game_board_left : Int64) (o_game_board_right : Int64) (p1 : Int32) (o : Int32) (hf : m_X5_chains o_game_stones0 o_game_stones1 o_game_board_size o_game_board_cells o_game_board_all o_game_board_left o_game_board_right p1 = some o) : Met l yX5_chains (wl yX5_chains cX5_chains 6 (some .int)) R_X5_chains (PR [.ref z0, .int p1] D C [cX5 z0 z1 r_o_trial r_o_slots r_o_paths r_o_table r_o_contest r_o_foundBridges r_o_threatPlayers r_o_threatRegions o_threatCount r_o_text o_textLength, cX3 z1 z2 o_game_made o_game_known r_o_game_list o_game_stones0 o_game_stones1, cX0 z2 o_game_board_size o_game_board_cells o_game_board_all o_game_board_upper o_game_board_lower o_game_board_left o_game_board_right]) (vp_Si (fun r => r = o)) 0 0 (fun _ => False) := by
  refine Met_ofC (by decide) ?_
  intro p e s m args below meth c hc hv
  obtain ⟨rfl, hP, hK⟩ := hv
  have hx := hc.1
  have hb := hc.2.1
  have hown := hc.2.2.2.2.1
  have hts := hc.2.2.2.2.2.1
  refine en_F rfl (fun ls hl => ?_)
  have hl : lv_has ls 6 [(0, .ref z0), (1, .int p1)] := hl
  refine lv_iload_n hx hb dX5_chains_0 rfl (lv_at hl 1 rfl) ?_
  refine rcSi (As := [.int p1]) (rest := []) hc k_X5_125 (c_X5_isPlayer l D C p1  _ rfl) ⟨rfl, rfl, Nat.le_of_ble_eq_true rfl, Nat.le_of_ble_eq_true rfl⟩ (hP.sub [] rfl) hK hl rfl rfl (Nat.le_of_ble_eq_true rfl) ⟨Nat.zero_le _, Nat.zero_le _⟩ dX5_chains_1 ?_
  refine lv_if_ne (tgt := 10) hx hb dX5_chains_4 (by decide) (fun c1 => ?_) (fun c1 => ?_)
  · have hf := if_f hf c1
    refine lv_aload_n hx hb dX5_chains_10 rfl (lv_at hl 0 rfl) ?_
    refine va_get (D := D) (ci := 5) (v := .ref z1) (C := RX5) (T := TX5) (N := 12) hx hb hts inX5 hown hK hP 0 rfl rfl 0 (by decide) (hts _ q_137) (fun _ h9 => h9) rfl dX5_chains_11 ?_
    refine lv_iload_n hx hb dX5_chains_14 rfl (lv_at hl 1 rfl) ?_
    refine rcVl (As := [.int p1]) (rest := []) hc k_X5_101 (c_X3_stonesOf l D C z1 z2 o_game_made o_game_known r_o_game_list o_game_stones0 o_game_stones1 p1  _ rfl) ⟨rfl, rfl, Nat.le_of_ble_eq_true rfl, Nat.le_of_ble_eq_true rfl⟩ (hP.sub [1] rfl) hK (q0 := 0) rfl rfl rfl hl rfl rfl (Nat.le_of_ble_eq_true rfl) ⟨Nat.zero_le _, Nat.zero_le _⟩ dX5_chains_15 ?_
    refine lv_lstore_n (lv' := [(2, .long (m_X3_stonesOf o_game_stones0 o_game_stones1 p1)), (0, .ref z0), (1, .int p1)]) hx hb dX5_chains_18 rfl hl (by decide) rfl (fun ls hl => ?_)
    refine lv_iconst (v := (0 : Int32)) hx hb dX5_chains_19 (by decide) ?_
    refine lv_istore (lv' := [(4, .int (0 : Int32)), (2, .long (m_X3_stonesOf o_game_stones0 o_game_stones1 p1)), (0, .ref z0), (1, .int p1)]) hx hb dX5_chains_20 hl (by decide) rfl (fun ls hl => ?_)
    refine lv_iconst (v := (0 : Int32)) hx hb dX5_chains_22 (by decide) ?_
    refine lv_istore (lv' := [(5, .int (0 : Int32)), (4, .int (0 : Int32)), (2, .long (m_X3_stonesOf o_game_stones0 o_game_stones1 p1)), (0, .ref z0), (1, .int p1)]) hx hb dX5_chains_23 hl (by decide) rfl (fun ls hl => ?_)
    exact w_X5_chains_c25 hc hK hP  FU (m_X3_stonesOf o_game_stones0 o_game_stones1 p1) (0 : Int32) (0 : Int32) hf ls (lv_sub hl [3, 2, 1, 0] rfl)
  · have hf := if_t hf c1
    refine lv_bipush (v := (-11 : Int32)) hx hb dX5_chains_7 (by decide) ?_
    exact rRi hc (Option.some.inj hf) dX5_chains_9
abbrev R_X5_chainAround : Room := { frames := 3, cells := 0, slots := 0, locals := 81 }
def m_X5_chainAround_c28 (o_game_stones0 : Int64) (o_game_stones1 : Int64) (o_game_board_size : Int32) (o_game_board_cells : Int32) (o_game_board_all : Int64) (o_game_board_left : Int64) (o_game_board_right : Int64)  (v2 : Int64) (t0 : Int32) : Option (Int64) := ((m_X0_flood o_game_board_size o_game_board_cells o_game_board_all o_game_board_left o_game_board_right v2 (m_X3_stonesOf o_game_stones0 o_game_stones1 t0)).bind fun u2 => some u2)
set_option maxHeartbeats 4000000 in
set_option maxRecDepth 100000 in
theorem w_X5_chainAround_c28 {p : Program} {l : Launch} {e : Env} {s : State} {m : MethodId} {args : Array Value} {below : List Frame} {meth : Method} {c : Code} {D : va_G} {C : Nat → ClassId} {z0 : Nat} {z1 : Nat} {z2 : Nat} {r_o_trial : Nat} {r_o_slots : Nat} {r_o_paths : Nat} {r_o_table : Nat} {r_o_contest : Nat} {r_o_foundBridges : Nat} {r_o_threatPlayers : Nat} {r_o_threatRegions : Nat} {o_threatCount : Int32} {r_o_text : Nat} {o_textLength : Int32} {o_game_made : Int32} {o_game_known : Int32} {r_o_game_list : Nat} {o_game_stones0 : Int64} {o_game_stones1 : Int64} {o_game_board_size : Int32} {o_game_board_cells : Int32} {o_game_board_all : Int64} {o_game_board_upper : Int64} {o_game_board_lower : Int64} {o_game_board_left : Int64} {o_game_board_right : Int64} {o : Int64} (hc : Cx p s m args meth c yX5_chainAround cX5_chainAround 6 (some .long)) (hK : va_K D vwCl (TY C) s) (hP : va_P D vwCl [cX5 z0 z1 r_o_trial r_o_slots r_o_paths r_o_table r_o_contest r_o_foundBridges r_o_threatPlayers r_o_threatRegions o_threatCount r_o_text o_textLength, cX3 z1 z2 o_game_made o_game_known r_o_game_list o_game_stones0 o_game_stones1, cX0 z2 o_game_board_size o_game_board_cells o_game_board_all o_game_board_upper o_game_board_lower o_game_board_left o_game_board_right] s.heap) : ∀ (v2 : Int64) (t0 : Int32), m_X5_chainAround_c28 o_game_stones0 o_game_stones1 o_game_board_size o_game_board_cells o_game_board_all o_game_board_left o_game_board_right  v2 t0 = some o → ∀ (ls : Array Slot), lv_has ls 6 [(0, .ref z0), (2, .long v2)] → W p l e R_X5_chainAround s m args below meth c s.heap [] 0 0 (MQ below (vp_Sl (fun r => r = o)) args s 0 0 (fun _ => False)) (F0 m 28 ls [.int t0, .ref z1]) := by
  have hx := hc.1
  have hb := hc.2.1
  have hown := hc.2.2.2.2.1
  have hts := hc.2.2.2.2.2.1
  intro v2 t0 hf ls hl
  refine rcVl (As := [.int t0]) (rest := []) hc k_X5_101 (c_X3_stonesOf l D C z1 z2 o_game_made o_game_known r_o_game_list o_game_stones0 o_game_stones1 t0  _ rfl) ⟨rfl, rfl, Nat.le_of_ble_eq_true rfl, Nat.le_of_ble_eq_true rfl⟩ (hP.sub [1] rfl) hK (q0 := 0) rfl rfl rfl hl rfl rfl (Nat.le_of_ble_eq_true rfl) ⟨Nat.zero_le _, Nat.zero_le _⟩ dX5_chainAround_28 ?_
  refine lv_lstore (lv' := [(4, .long (m_X3_stonesOf o_game_stones0 o_game_stones1 t0)), (0, .ref z0), (2, .long v2)]) hx hb dX5_chainAround_31 hl (by decide) rfl (fun ls hl => ?_)
  refine lv_aload_n hx hb dX5_chainAround_33 rfl (lv_at hl 1 rfl) ?_
  refine va_get (D := D) (ci := 5) (v := .ref z1) (C := RX5) (T := TX5) (N := 12) hx hb hts inX5 hown hK hP 0 rfl rfl 0 (by decide) (hts _ q_137) (fun _ h9 => h9) rfl dX5_chainAround_34 ?_
  refine va_get (D := D) (ci := 3) (v := .ref z2) (C := RX3) (T := TX3) (N := 6) hx hb hts inX3 hown hK hP 1 rfl rfl 0 (by decide) (hts _ q_94) (fun _ h9 => h9) rfl dX5_chainAround_37 ?_
  refine lv_lload_n hx hb dX5_chainAround_40 rfl (lv_at hl 2 rfl) ?_
  refine lv_lload hx hb dX5_chainAround_41 (lv_at hl 0 rfl) ?_
  obtain ⟨u2, hu2, hf⟩ := bind_some hf
  refine rcVl (As := [.long v2, .long (m_X3_stonesOf o_game_stones0 o_game_stones1 t0)]) (rest := []) hc k_X5_134 (c_X0_flood l D C z2 o_game_board_size o_game_board_cells o_game_board_all o_game_board_upper o_game_board_lower o_game_board_left o_game_board_right v2 (m_X3_stonesOf o_game_stones0 o_game_stones1 t0)  _ hu2) ⟨rfl, rfl, Nat.le_of_ble_eq_true rfl, Nat.le_of_ble_eq_true rfl⟩ (hP.sub [2] rfl) hK (q0 := 0) rfl rfl rfl hl rfl rfl (Nat.le_of_ble_eq_true rfl) ⟨Nat.zero_le _, Nat.zero_le _⟩ dX5_chainAround_43 ?_
  exact rRl hc (Option.some.inj hf) dX5_chainAround_46
def m_X5_chainAround (o_game_stones0 : Int64) (o_game_stones1 : Int64) (o_game_board_size : Int32) (o_game_board_cells : Int32) (o_game_board_all : Int64) (o_game_board_left : Int64) (o_game_board_right : Int64) (p1 : Int32) : Option (Int64) := (if ((m_X3_stonesOf o_game_stones0 o_game_stones1 (0 : Int32)) &&& (jshl (1 : Int64) p1)) = (0 : Int64) then (m_X5_chainAround_c28 o_game_stones0 o_game_stones1 o_game_board_size o_game_board_cells o_game_board_all o_game_board_left o_game_board_right (jshl (1 : Int64) p1) (1 : Int32)) else (m_X5_chainAround_c28 o_game_stones0 o_game_stones1 o_game_board_size o_game_board_cells o_game_board_all o_game_board_left o_game_board_right (jshl (1 : Int64) p1) (0 : Int32)))
set_option maxHeartbeats 4000000 in
set_option maxRecDepth 100000 in
theorem c_X5_chainAround (l : Launch) (D : va_G) (C : Nat → ClassId) (z0 : Nat) (z1 : Nat) (z2 : Nat) (r_o_trial : Nat) (r_o_slots : Nat) (r_o_paths : Nat) (r_o_table : Nat) (r_o_contest : Nat) (r_o_foundBridges : Nat) (r_o_threatPlayers : Nat) (r_o_threatRegions : Nat) (o_threatCount : Int32) (r_o_text : Nat) (o_textLength : Int32) (o_game_made : Int32) (o_game_known : Int32) (r_o_game_list : Nat) (o_game_stones0 : Int64) (o_game_stones1 : Int64) (o_game_board_size : Int32) (o_game_board_cells : Int32) (o_game_board_all : Int64) (o_game_board_upper : Int64) (o_game_board_lower : Int64) (o_game_board_left : Int64) (o_game_board_right : Int64) (p1 : Int32) (o : Int64) (hf : m_X5_chainAround o_game_stones0 o_game_stones1 o_game_board_size o_game_board_cells o_game_board_all o_game_board_left o_game_board_right p1 = some o) : Met l yX5_chainAround (wl yX5_chainAround cX5_chainAround 6 (some .long)) R_X5_chainAround (PR [.ref z0, .int p1] D C [cX5 z0 z1 r_o_trial r_o_slots r_o_paths r_o_table r_o_contest r_o_foundBridges r_o_threatPlayers r_o_threatRegions o_threatCount r_o_text o_textLength, cX3 z1 z2 o_game_made o_game_known r_o_game_list o_game_stones0 o_game_stones1, cX0 z2 o_game_board_size o_game_board_cells o_game_board_all o_game_board_upper o_game_board_lower o_game_board_left o_game_board_right]) (vp_Sl (fun r => r = o)) 0 0 (fun _ => False) := by
  refine Met_ofC (by decide) ?_
  intro p e s m args below meth c hc hv
  obtain ⟨rfl, hP, hK⟩ := hv
  have hx := hc.1
  have hb := hc.2.1
  have hown := hc.2.2.2.2.1
  have hts := hc.2.2.2.2.2.1
  refine en_F rfl (fun ls hl => ?_)
  have hl : lv_has ls 6 [(0, .ref z0), (1, .int p1)] := hl
  refine lv_lconst (v := (1 : Int64)) hx hb dX5_chainAround_0 (by decide) ?_
  refine lv_iload_n hx hb dX5_chainAround_1 rfl (lv_at hl 1 rfl) ?_
  refine lv_lshl (v := (jshl (1 : Int64) p1)) hx hb dX5_chainAround_2 rfl ?_
  refine lv_lstore_n (lv' := [(2, .long (jshl (1 : Int64) p1)), (0, .ref z0), (1, .int p1)]) hx hb dX5_chainAround_3 rfl hl (by decide) rfl (fun ls hl => ?_)
  refine lv_aload_n hx hb dX5_chainAround_4 rfl (lv_at hl 1 rfl) ?_
  refine va_get (D := D) (ci := 5) (v := .ref z1) (C := RX5) (T := TX5) (N := 12) hx hb hts inX5 hown hK hP 0 rfl rfl 0 (by decide) (hts _ q_137) (fun _ h9 => h9) rfl dX5_chainAround_5 ?_
  refine lv_aload_n hx hb dX5_chainAround_8 rfl (lv_at hl 1 rfl) ?_
  refine va_get (D := D) (ci := 5) (v := .ref z1) (C := RX5) (T := TX5) (N := 12) hx hb hts inX5 hown hK hP 0 rfl rfl 0 (by decide) (hts _ q_137) (fun _ h9 => h9) rfl dX5_chainAround_9 ?_
  refine lv_iconst (v := (0 : Int32)) hx hb dX5_chainAround_12 (by decide) ?_
  refine rcVl (As := [.int (0 : Int32)]) (rest := [.ref z1]) hc k_X5_101 (c_X3_stonesOf l D C z1 z2 o_game_made o_game_known r_o_game_list o_game_stones0 o_game_stones1 (0 : Int32)  _ rfl) ⟨rfl, rfl, Nat.le_of_ble_eq_true rfl, Nat.le_of_ble_eq_true rfl⟩ (hP.sub [1] rfl) hK (q0 := 0) rfl rfl rfl hl rfl rfl (Nat.le_of_ble_eq_true rfl) ⟨Nat.zero_le _, Nat.zero_le _⟩ dX5_chainAround_13 ?_
  refine lv_lload_n hx hb dX5_chainAround_16 rfl (lv_at hl 0 rfl) ?_
  refine lv_land hx hb dX5_chainAround_17 ?_
  refine lv_lconst (v := (0 : Int64)) hx hb dX5_chainAround_18 (by decide) ?_
  refine lc_eq (tgt := 27) hx hb dX5_chainAround_19 dX5_chainAround_20 (by decide) (fun c1 => ?_) (fun c1 => ?_)
  · have hf := if_t hf c1
    refine lv_iconst (v := (1 : Int32)) hx hb dX5_chainAround_27 (by decide) ?_
    exact w_X5_chainAround_c28 hc hK hP  (jshl (1 : Int64) p1) (1 : Int32) hf ls (lv_sub hl [1, 0] rfl)
  · have hf := if_f hf c1
    refine lv_iconst (v := (0 : Int32)) hx hb dX5_chainAround_23 (by decide) ?_
    refine lv_goto (tgt := 28) hx hb dX5_chainAround_24 (by decide) ?_
    exact w_X5_chainAround_c28 hc hK hP  (jshl (1 : Int64) p1) (0 : Int32) hf ls (lv_sub hl [1, 0] rfl)
abbrev R_X5_chainOf : Room := { frames := 4, cells := 0, slots := 0, locals := 106 }
def m_X5_chainOf (o_game_stones0 : Int64) (o_game_stones1 : Int64) (o_game_board_size : Int32) (o_game_board_cells : Int32) (o_game_board_all : Int64) (o_game_board_left : Int64) (o_game_board_right : Int64) (p1 : Int32) : Option (Int32) := (if (m_X5_isCell o_game_board_cells p1) = 0 then some (-11 : Int32) else ((m_X5_chainAround o_game_stones0 o_game_stones1 o_game_board_size o_game_board_cells o_game_board_all o_game_board_left o_game_board_right p1).bind fun u2 => (if u2 = (0 : Int64) then some (-15 : Int32) else some (m_X5_lowest u2))))
set_option maxHeartbeats 4000000 in
set_option maxRecDepth 100000 in
theorem c_X5_chainOf (l : Launch) (D : va_G) (C : Nat → ClassId) (z0 : Nat) (z1 : Nat) (z2 : Nat) (r_o_trial : Nat) (r_o_slots : Nat) (r_o_paths : Nat) (r_o_table : Nat) (r_o_contest : Nat) (r_o_foundBridges : Nat) (r_o_threatPlayers : Nat) (r_o_threatRegions : Nat) (o_threatCount : Int32) (r_o_text : Nat) (o_textLength : Int32) (o_game_made : Int32) (o_game_known : Int32) (r_o_game_list : Nat) (o_game_stones0 : Int64) (o_game_stones1 : Int64) (o_game_board_size : Int32) (o_game_board_cells : Int32) (o_game_board_all : Int64) (o_game_board_upper : Int64) (o_game_board_lower : Int64) (o_game_board_left : Int64) (o_game_board_right : Int64) (p1 : Int32) (o : Int32) (hf : m_X5_chainOf o_game_stones0 o_game_stones1 o_game_board_size o_game_board_cells o_game_board_all o_game_board_left o_game_board_right p1 = some o) : Met l yX5_chainOf (wl yX5_chainOf cX5_chainOf 4 (some .int)) R_X5_chainOf (PR [.ref z0, .int p1] D C [cX5 z0 z1 r_o_trial r_o_slots r_o_paths r_o_table r_o_contest r_o_foundBridges r_o_threatPlayers r_o_threatRegions o_threatCount r_o_text o_textLength, cX3 z1 z2 o_game_made o_game_known r_o_game_list o_game_stones0 o_game_stones1, cX0 z2 o_game_board_size o_game_board_cells o_game_board_all o_game_board_upper o_game_board_lower o_game_board_left o_game_board_right]) (vp_Si (fun r => r = o)) 0 0 (fun _ => False) := by
  refine Met_ofC (by decide) ?_
  intro p e s m args below meth c hc hv
  obtain ⟨rfl, hP, hK⟩ := hv
  have hx := hc.1
  have hb := hc.2.1
  have hown := hc.2.2.2.2.1
  have hts := hc.2.2.2.2.2.1
  refine en_F rfl (fun ls hl => ?_)
  have hl : lv_has ls 4 [(0, .ref z0), (1, .int p1)] := hl
  refine lv_aload_n hx hb dX5_chainOf_0 rfl (lv_at hl 0 rfl) ?_
  refine lv_iload_n hx hb dX5_chainOf_1 rfl (lv_at hl 1 rfl) ?_
  refine rcVi (As := [.int p1]) (rest := []) hc k_X5_80 (c_X5_isCell l D C z0 z1 z2 r_o_trial r_o_slots r_o_paths r_o_table r_o_contest r_o_foundBridges r_o_threatPlayers r_o_threatRegions o_threatCount r_o_text o_textLength o_game_made o_game_known r_o_game_list o_game_stones0 o_game_stones1 o_game_board_size o_game_board_cells o_game_board_all o_game_board_upper o_game_board_lower o_game_board_left o_game_board_right p1  _ rfl) ⟨rfl, rfl, Nat.le_of_ble_eq_true rfl, Nat.le_of_ble_eq_true rfl⟩ (hP.sub [0, 1, 2] rfl) hK (q0 := 0) rfl rfl rfl hl rfl rfl (Nat.le_of_ble_eq_true rfl) ⟨Nat.zero_le _, Nat.zero_le _⟩ dX5_chainOf_2 ?_
  refine lv_if_ne (tgt := 11) hx hb dX5_chainOf_5 (by decide) (fun c1 => ?_) (fun c1 => ?_)
  · have hf := if_f hf c1
    refine lv_aload_n hx hb dX5_chainOf_11 rfl (lv_at hl 0 rfl) ?_
    refine lv_iload_n hx hb dX5_chainOf_12 rfl (lv_at hl 1 rfl) ?_
    obtain ⟨u2, hu2, hf⟩ := bind_some hf
    refine rcVl (As := [.int p1]) (rest := []) hc k_X5_140 (c_X5_chainAround l D C z0 z1 z2 r_o_trial r_o_slots r_o_paths r_o_table r_o_contest r_o_foundBridges r_o_threatPlayers r_o_threatRegions o_threatCount r_o_text o_textLength o_game_made o_game_known r_o_game_list o_game_stones0 o_game_stones1 o_game_board_size o_game_board_cells o_game_board_all o_game_board_upper o_game_board_lower o_game_board_left o_game_board_right p1  _ hu2) ⟨rfl, rfl, Nat.le_of_ble_eq_true rfl, Nat.le_of_ble_eq_true rfl⟩ (hP.sub [0, 1, 2] rfl) hK (q0 := 0) rfl rfl rfl hl rfl rfl (Nat.le_of_ble_eq_true rfl) ⟨Nat.zero_le _, Nat.zero_le _⟩ dX5_chainOf_13 ?_
    refine lv_lstore_n (lv' := [(2, .long u2), (0, .ref z0), (1, .int p1)]) hx hb dX5_chainOf_16 rfl hl (by decide) rfl (fun ls hl => ?_)
    refine lv_lload_n hx hb dX5_chainOf_17 rfl (lv_at hl 0 rfl) ?_
    refine lv_lconst (v := (0 : Int64)) hx hb dX5_chainOf_18 (by decide) ?_
    refine lc_ne (tgt := 28) hx hb dX5_chainOf_19 dX5_chainOf_20 (by decide) (fun c3 => ?_) (fun c3 => ?_)
    · have hf := if_f hf c3
      refine lv_lload_n hx hb dX5_chainOf_28 rfl (lv_at hl 0 rfl) ?_
      refine rcSi (As := [.long u2]) (rest := []) hc k_X5_105 (c_X5_lowest l D C u2  _ rfl) ⟨rfl, rfl, Nat.le_of_ble_eq_true rfl, Nat.le_of_ble_eq_true rfl⟩ (hP.sub [] rfl) hK hl rfl rfl (Nat.le_of_ble_eq_true rfl) ⟨Nat.zero_le _, Nat.zero_le _⟩ dX5_chainOf_29 ?_
      exact rRi hc (Option.some.inj hf) dX5_chainOf_32
    · have hf := if_t hf c3
      refine lv_bipush (v := (-15 : Int32)) hx hb dX5_chainOf_23 (by decide) ?_
      refine lv_goto (tgt := 32) hx hb dX5_chainOf_25 (by decide) ?_
      exact rRi hc (Option.some.inj hf) dX5_chainOf_32
  · have hf := if_t hf c1
    refine lv_bipush (v := (-11 : Int32)) hx hb dX5_chainOf_8 (by decide) ?_
    exact rRi hc (Option.some.inj hf) dX5_chainOf_10
abbrev R_X5_chain : Room := { frames := 4, cells := 0, slots := 0, locals := 106 }
def m_X5_chain (o_game_stones0 : Int64) (o_game_stones1 : Int64) (o_game_board_size : Int32) (o_game_board_cells : Int32) (o_game_board_all : Int64) (o_game_board_left : Int64) (o_game_board_right : Int64) (p1 : Int32) : Option (Int64) := (if (m_X5_isCell o_game_board_cells p1) = 0 then some (-11 : Int64) else ((m_X5_chainAround o_game_stones0 o_game_stones1 o_game_board_size o_game_board_cells o_game_board_all o_game_board_left o_game_board_right p1).bind fun u2 => (if u2 = (0 : Int64) then some (-11 : Int64) else (if (m_X5_lowest u2) = p1 then some u2 else some (-11 : Int64)))))
set_option maxHeartbeats 4000000 in
set_option maxRecDepth 100000 in
theorem c_X5_chain (l : Launch) (D : va_G) (C : Nat → ClassId) (z0 : Nat) (z1 : Nat) (z2 : Nat) (r_o_trial : Nat) (r_o_slots : Nat) (r_o_paths : Nat) (r_o_table : Nat) (r_o_contest : Nat) (r_o_foundBridges : Nat) (r_o_threatPlayers : Nat) (r_o_threatRegions : Nat) (o_threatCount : Int32) (r_o_text : Nat) (o_textLength : Int32) (o_game_made : Int32) (o_game_known : Int32) (r_o_game_list : Nat) (o_game_stones0 : Int64) (o_game_stones1 : Int64) (o_game_board_size : Int32) (o_game_board_cells : Int32) (o_game_board_all : Int64) (o_game_board_upper : Int64) (o_game_board_lower : Int64) (o_game_board_left : Int64) (o_game_board_right : Int64) (p1 : Int32) (o : Int64) (hf : m_X5_chain o_game_stones0 o_game_stones1 o_game_board_size o_game_board_cells o_game_board_all o_game_board_left o_game_board_right p1 = some o) : Met l yX5_chain (wl yX5_chain cX5_chain 4 (some .long)) R_X5_chain (PR [.ref z0, .int p1] D C [cX5 z0 z1 r_o_trial r_o_slots r_o_paths r_o_table r_o_contest r_o_foundBridges r_o_threatPlayers r_o_threatRegions o_threatCount r_o_text o_textLength, cX3 z1 z2 o_game_made o_game_known r_o_game_list o_game_stones0 o_game_stones1, cX0 z2 o_game_board_size o_game_board_cells o_game_board_all o_game_board_upper o_game_board_lower o_game_board_left o_game_board_right]) (vp_Sl (fun r => r = o)) 0 0 (fun _ => False) := by
  refine Met_ofC (by decide) ?_
  intro p e s m args below meth c hc hv
  obtain ⟨rfl, hP, hK⟩ := hv
  have hx := hc.1
  have hb := hc.2.1
  have hown := hc.2.2.2.2.1
  have hts := hc.2.2.2.2.2.1
  refine en_F rfl (fun ls hl => ?_)
  have hl : lv_has ls 4 [(0, .ref z0), (1, .int p1)] := hl
  refine lv_aload_n hx hb dX5_chain_0 rfl (lv_at hl 0 rfl) ?_
  refine lv_iload_n hx hb dX5_chain_1 rfl (lv_at hl 1 rfl) ?_
  refine rcVi (As := [.int p1]) (rest := []) hc k_X5_80 (c_X5_isCell l D C z0 z1 z2 r_o_trial r_o_slots r_o_paths r_o_table r_o_contest r_o_foundBridges r_o_threatPlayers r_o_threatRegions o_threatCount r_o_text o_textLength o_game_made o_game_known r_o_game_list o_game_stones0 o_game_stones1 o_game_board_size o_game_board_cells o_game_board_all o_game_board_upper o_game_board_lower o_game_board_left o_game_board_right p1  _ rfl) ⟨rfl, rfl, Nat.le_of_ble_eq_true rfl, Nat.le_of_ble_eq_true rfl⟩ (hP.sub [0, 1, 2] rfl) hK (q0 := 0) rfl rfl rfl hl rfl rfl (Nat.le_of_ble_eq_true rfl) ⟨Nat.zero_le _, Nat.zero_le _⟩ dX5_chain_2 ?_
  refine lv_if_ne (tgt := 12) hx hb dX5_chain_5 (by decide) (fun c1 => ?_) (fun c1 => ?_)
  · have hf := if_f hf c1
    refine lv_aload_n hx hb dX5_chain_12 rfl (lv_at hl 0 rfl) ?_
    refine lv_iload_n hx hb dX5_chain_13 rfl (lv_at hl 1 rfl) ?_
    obtain ⟨u2, hu2, hf⟩ := bind_some hf
    refine rcVl (As := [.int p1]) (rest := []) hc k_X5_140 (c_X5_chainAround l D C z0 z1 z2 r_o_trial r_o_slots r_o_paths r_o_table r_o_contest r_o_foundBridges r_o_threatPlayers r_o_threatRegions o_threatCount r_o_text o_textLength o_game_made o_game_known r_o_game_list o_game_stones0 o_game_stones1 o_game_board_size o_game_board_cells o_game_board_all o_game_board_upper o_game_board_lower o_game_board_left o_game_board_right p1  _ hu2) ⟨rfl, rfl, Nat.le_of_ble_eq_true rfl, Nat.le_of_ble_eq_true rfl⟩ (hP.sub [0, 1, 2] rfl) hK (q0 := 0) rfl rfl rfl hl rfl rfl (Nat.le_of_ble_eq_true rfl) ⟨Nat.zero_le _, Nat.zero_le _⟩ dX5_chain_14 ?_
    refine lv_lstore_n (lv' := [(2, .long u2), (0, .ref z0), (1, .int p1)]) hx hb dX5_chain_17 rfl hl (by decide) rfl (fun ls hl => ?_)
    refine lv_lload_n hx hb dX5_chain_18 rfl (lv_at hl 0 rfl) ?_
    refine lv_lconst (v := (0 : Int64)) hx hb dX5_chain_19 (by decide) ?_
    refine lc_eq (tgt := 36) hx hb dX5_chain_20 dX5_chain_21 (by decide) (fun c3 => ?_) (fun c3 => ?_)
    · have hf := if_t hf c3
      refine lv_ldc2 (v := (-11 : Int64)) hx hb hown (hts _ q_302) dX5_chain_36 ?_
      exact rRl hc (Option.some.inj hf) dX5_chain_39
    · have hf := if_f hf c3
      refine lv_lload_n hx hb dX5_chain_24 rfl (lv_at hl 0 rfl) ?_
      refine rcSi (As := [.long u2]) (rest := []) hc k_X5_105 (c_X5_lowest l D C u2  _ rfl) ⟨rfl, rfl, Nat.le_of_ble_eq_true rfl, Nat.le_of_ble_eq_true rfl⟩ (hP.sub [] rfl) hK hl rfl rfl (Nat.le_of_ble_eq_true rfl) ⟨Nat.zero_le _, Nat.zero_le _⟩ dX5_chain_25 ?_
      refine lv_iload_n hx hb dX5_chain_28 rfl (lv_at hl 2 rfl) ?_
      refine lv_icmp_ne (tgt := 36) hx hb dX5_chain_29 (by decide) (fun c4 => ?_) (fun c4 => ?_)
      · have hf := if_f hf c4
        refine lv_ldc2 (v := (-11 : Int64)) hx hb hown (hts _ q_302) dX5_chain_36 ?_
        exact rRl hc (Option.some.inj hf) dX5_chain_39
      · have hf := if_t hf c4
        refine lv_lload_n hx hb dX5_chain_32 rfl (lv_at hl 0 rfl) ?_
        refine lv_goto (tgt := 39) hx hb dX5_chain_33 (by decide) ?_
        exact rRl hc (Option.some.inj hf) dX5_chain_39
  · have hf := if_t hf c1
    refine lv_ldc2 (v := (-11 : Int64)) hx hb hown (hts _ q_302) dX5_chain_8 ?_
    exact rRl hc (Option.some.inj hf) dX5_chain_11
abbrev R_X5_distance : Room := { frames := 5, cells := 0, slots := 0, locals := 141 }
def m_X5_distance (o_game_stones0 : Int64) (o_game_stones1 : Int64) (o_paths_layers : Nat → Int64) (o_game_board_size : Int32) (o_game_board_cells : Int32) (o_game_board_all : Int64) (o_game_board_upper : Int64) (o_game_board_lower : Int64) (o_game_board_left : Int64) (o_game_board_right : Int64) (p1 : Int32) : Option (Int32 × (Nat → Int64)) := (if (m_X5_isPlayer p1) = 0 then some ((-11 : Int32), o_paths_layers) else ((m_X4_measure o_paths_layers o_game_stones0 o_game_stones1 o_game_board_size o_game_board_cells o_game_board_all o_game_board_upper o_game_board_lower o_game_board_left o_game_board_right p1).bind fun u2 => some (u2.1, u2.2)))
set_option maxHeartbeats 4000000 in
set_option maxRecDepth 100000 in
theorem c_X5_distance (l : Launch) (D : va_G) (C : Nat → ClassId) (sz : Nat) (a0 : Nat) (a1 : Nat) (a2 : Nat) (a3 : Nat) (a4 : Nat) (a5 : Nat) (a6 : Nat) (a7 : Nat) (a8 : Nat) (a9 : Nat) (a10 : Nat) (a11 : Nat) (a12 : Nat) (a13 : Nat) (a14 : Nat) (a15 : Nat) (a16 : Nat) (z0 : Nat) (o_threatCount : Int32) (o_textLength : Int32) (o_game_made : Int32) (o_game_known : Int32) (o_game_stones0 : Int64) (o_game_stones1 : Int64) (o_game_list : Nat → Int32) (r_o_trial_board : Nat) (o_trial_made : Int32) (o_trial_known : Int32) (o_trial_stones0 : Int64) (o_trial_stones1 : Int64) (o_trial_list : Nat → Int32) (o_slots : Nat → Option Nat) (o_paths_layers : Nat → Int64) (o_table_count : Int32) (o_table_wins : Nat → Int64) (r_o_contest_board : Nat) (o_contest_from : Int64) (o_contest_to : Int64) (o_contest_spots : Nat → Int64) (o_contest_memo : Nat → Int64) (o_foundBridges : Nat → Int32) (o_threatPlayers : Nat → Int32) (o_threatRegions : Nat → Int64) (o_text : Nat → Int32) (o_game_board_size : Int32) (o_game_board_cells : Int32) (o_game_board_all : Int64) (o_game_board_upper : Int64) (o_game_board_lower : Int64) (o_game_board_left : Int64) (o_game_board_right : Int64) (p1 : Int32) (o : Int32 × (Nat → Int64)) (hf : m_X5_distance o_game_stones0 o_game_stones1 o_paths_layers o_game_board_size o_game_board_cells o_game_board_all o_game_board_upper o_game_board_lower o_game_board_left o_game_board_right p1 = some o) : Met l yX5_distance (wl yX5_distance cX5_distance 2 (some .int)) R_X5_distance (PW [.ref a0, .int p1] D C sz (wX5 C a0 a1 a2 a3 a4 a5 a6 a7 a8 a9 a10 a11 a12 a13 a14 a15 a16 o_threatCount o_textLength z0 o_game_made o_game_known o_game_stones0 o_game_stones1 o_game_list r_o_trial_board o_trial_made o_trial_known o_trial_stones0 o_trial_stones1 o_trial_list o_slots o_paths_layers o_table_count o_table_wins r_o_contest_board o_contest_from o_contest_to o_contest_spots o_contest_memo o_foundBridges o_threatPlayers o_threatRegions o_text) [cX0 z0 o_game_board_size o_game_board_cells o_game_board_all o_game_board_upper o_game_board_lower o_game_board_left o_game_board_right]) (QWi D o.1 (wX5 C a0 a1 a2 a3 a4 a5 a6 a7 a8 a9 a10 a11 a12 a13 a14 a15 a16 o_threatCount o_textLength z0 o_game_made o_game_known o_game_stones0 o_game_stones1 o_game_list r_o_trial_board o_trial_made o_trial_known o_trial_stones0 o_trial_stones1 o_trial_list o_slots o.2 o_table_count o_table_wins r_o_contest_board o_contest_from o_contest_to o_contest_spots o_contest_memo o_foundBridges o_threatPlayers o_threatRegions o_text) (va_A (wX5 C a0 a1 a2 a3 a4 a5 a6 a7 a8 a9 a10 a11 a12 a13 a14 a15 a16 o_threatCount o_textLength z0 o_game_made o_game_known o_game_stones0 o_game_stones1 o_game_list r_o_trial_board o_trial_made o_trial_known o_trial_stones0 o_trial_stones1 o_trial_list o_slots o_paths_layers o_table_count o_table_wins r_o_contest_board o_contest_from o_contest_to o_contest_spots o_contest_memo o_foundBridges o_threatPlayers o_threatRegions o_text) sz)) 0 0 (va_A (wX5 C a0 a1 a2 a3 a4 a5 a6 a7 a8 a9 a10 a11 a12 a13 a14 a15 a16 o_threatCount o_textLength z0 o_game_made o_game_known o_game_stones0 o_game_stones1 o_game_list r_o_trial_board o_trial_made o_trial_known o_trial_stones0 o_trial_stones1 o_trial_list o_slots o_paths_layers o_table_count o_table_wins r_o_contest_board o_contest_from o_contest_to o_contest_spots o_contest_memo o_foundBridges o_threatPlayers o_threatRegions o_text) sz) := by
  refine Met_ofC (by decide) ?_
  intro p e s m args below meth c hc hv
  obtain ⟨rfl, hsz, hP, hK, hD0, hO, hN0⟩ := hv
  subst hsz
  have hD := hD0.self (sz := s.heap.size)
  have hN : ∀ q ∈ [cX0 z0 o_game_board_size o_game_board_cells o_game_board_all o_game_board_upper o_game_board_lower o_game_board_left o_game_board_right], ¬ va_A (wX5 C a0 a1 a2 a3 a4 a5 a6 a7 a8 a9 a10 a11 a12 a13 a14 a15 a16 o_threatCount o_textLength z0 o_game_made o_game_known o_game_stones0 o_game_stones1 o_game_list r_o_trial_board o_trial_made o_trial_known o_trial_stones0 o_trial_stones1 o_trial_list o_slots o_paths_layers o_table_count o_table_wins r_o_contest_board o_contest_from o_contest_to o_contest_spots o_contest_memo o_foundBridges o_threatPlayers o_threatRegions o_text) s.heap.size q.1 := hN0
  generalize hAe : va_A (wX5 C a0 a1 a2 a3 a4 a5 a6 a7 a8 a9 a10 a11 a12 a13 a14 a15 a16 o_threatCount o_textLength z0 o_game_made o_game_known o_game_stones0 o_game_stones1 o_game_list r_o_trial_board o_trial_made o_trial_known o_trial_stones0 o_trial_stones1 o_trial_list o_slots o_paths_layers o_table_count o_table_wins r_o_contest_board o_contest_from o_contest_to o_contest_spots o_contest_memo o_foundBridges o_threatPlayers o_threatRegions o_text) s.heap.size = A at hD hN ⊢
  have hA : ∀ q : Nat, s.heap.size ≤ q → A q := fun q h => by rw [← hAe]; exact Or.inr h
  have hS : va_S A s.heap s.heap [] := va_S.rf
  have hx := hc.1
  have hb := hc.2.1
  have hown := hc.2.2.2.2.1
  have hts := hc.2.2.2.2.2.1
  refine en_F rfl (fun ls hl => ?_)
  have hl : lv_has ls 2 [(0, .ref a0), (1, .int p1)] := hl
  refine lv_iload_n hx hb dX5_distance_0 rfl (lv_at hl 1 rfl) ?_
  refine rcSi (As := [.int p1]) (rest := []) hc k_X5_125 (c_X5_isPlayer l D C p1  _ rfl) ⟨rfl, rfl, Nat.le_of_ble_eq_true rfl, Nat.le_of_ble_eq_true rfl⟩ (hP.sub [] rfl) hK hl rfl rfl (Nat.le_of_ble_eq_true rfl) ⟨Nat.zero_le _, Nat.zero_le _⟩ dX5_distance_1 ?_
  refine lv_if_ne (tgt := 10) hx hb dX5_distance_4 (by decide) (fun c1 => ?_) (fun c1 => ?_)
  · have hf := if_f hf c1
    refine lv_aload_n hx hb dX5_distance_10 rfl (lv_at hl 0 rfl) ?_
    refine va_get (D := D) (ci := 5) (v := .ref a6) (C := RX5) (T := TX5) (N := 12) hx hb hts inX5 hown hK hP 0 rfl rfl 3 (by decide) (hts _ q_140) (fun _ h9 => h9) rfl dX5_distance_11 ?_
    refine lv_aload_n hx hb dX5_distance_14 rfl (lv_at hl 0 rfl) ?_
    refine va_get (D := D) (ci := 5) (v := .ref a1) (C := RX5) (T := TX5) (N := 12) hx hb hts inX5 hown hK hP 0 rfl rfl 0 (by decide) (hts _ q_137) (fun _ h9 => h9) rfl dX5_distance_15 ?_
    refine lv_iload_n hx hb dX5_distance_18 rfl (lv_at hl 1 rfl) ?_
    obtain ⟨u2, hu2, hf⟩ := bind_some hf
    refine wcVi (A := A) (wc := [cX4 a6 a7, aJ C a7 50 o_paths_layers]) (w1 := [cX4 a6 a7, aJ C a7 50 u2.2]) (rc := [cX3 a1 z0 o_game_made o_game_known a2 o_game_stones0 o_game_stones1, cX0 z0 o_game_board_size o_game_board_cells o_game_board_all o_game_board_upper o_game_board_lower o_game_board_left o_game_board_right]) (As := [.ref a1, .int p1]) (rest := []) hc k_X5_143 (c_X4_measure l D C _ a6 a7 a1 z0 o_paths_layers o_game_made o_game_known a2 o_game_stones0 o_game_stones1 o_game_board_size o_game_board_cells o_game_board_all o_game_board_upper o_game_board_lower o_game_board_left o_game_board_right p1  _ hu2) ⟨rfl, rfl, Nat.le_of_ble_eq_true rfl, Nat.le_of_ble_eq_true rfl⟩ hP hD hS hA hK [6, 7] [0, 1, 2, 3, 4, 5, 8, 9, 10, 11, 12, 13, 14, 15, 16] rfl rfl rfl rfl (by decide) ((hP.app (ro_S hO hN hS)).sub [1, 17] rfl) (Ap_cons (apart_w hP hD [6, 7] rfl 1 rfl (by decide)) (Ap_cons (fun h9 => hN _ (List.mem_of_getElem? (i := 0) rfl) (va_free (wc := [cX4 a6 a7, aJ C a7 50 o_paths_layers]) hD hS hA [6, 7] rfl _ h9)) Ap_nil)) (q0 := 0) rfl rfl rfl hl rfl rfl (Nat.le_of_ble_eq_true rfl) ⟨Nat.zero_le _, Nat.zero_le _⟩ dX5_distance_19 (fun H locs hP hD hS => ?_)
    have hP : va_P D vwCl (wX5 C a0 a1 a2 a3 a4 a5 a6 a7 a8 a9 a10 a11 a12 a13 a14 a15 a16 o_threatCount o_textLength z0 o_game_made o_game_known o_game_stones0 o_game_stones1 o_game_list r_o_trial_board o_trial_made o_trial_known o_trial_stones0 o_trial_stones1 o_trial_list o_slots u2.2 o_table_count o_table_wins r_o_contest_board o_contest_from o_contest_to o_contest_spots o_contest_memo o_foundBridges o_threatPlayers o_threatRegions o_text) H := hP.sub [0, 1, 2, 3, 4, 5, 15, 16, 6, 7, 8, 9, 10, 11, 12, 13, 14] rfl
    have hD : va_D A (wX5 C a0 a1 a2 a3 a4 a5 a6 a7 a8 a9 a10 a11 a12 a13 a14 a15 a16 o_threatCount o_textLength z0 o_game_made o_game_known o_game_stones0 o_game_stones1 o_game_list r_o_trial_board o_trial_made o_trial_known o_trial_stones0 o_trial_stones1 o_trial_list o_slots u2.2 o_table_count o_table_wins r_o_contest_board o_contest_from o_contest_to o_contest_spots o_contest_memo o_foundBridges o_threatPlayers o_threatRegions o_text) := hD.sub [0, 1, 2, 3, 4, 5, 15, 16, 6, 7, 8, 9, 10, 11, 12, 13, 14] rfl rfl
    have hf := Option.some.inj hf
    subst hf
    exact rWi hc rfl hP hD hS dX5_distance_22
  · have hf := if_t hf c1
    refine lv_bipush (v := (-11 : Int32)) hx hb dX5_distance_7 (by decide) ?_
    have hf := Option.some.inj hf
    subst hf
    exact rWi hc rfl hP hD hS dX5_distance_9
abbrev R_X5_shortest : Room := { frames := 6, cells := 0, slots := 0, locals := 174 }
def m_X5_shortest (o_game_stones0 : Int64) (o_game_stones1 : Int64) (o_paths_layers : Nat → Int64) (o_game_board_size : Int32) (o_game_board_cells : Int32) (o_game_board_all : Int64) (o_game_board_upper : Int64) (o_game_board_lower : Int64) (o_game_board_left : Int64) (o_game_board_right : Int64) (p1 : Int32) : Option (Int64 × (Nat → Int64)) := (if (m_X5_isPlayer p1) = 0 then some ((-11 : Int64), o_paths_layers) else ((m_X4_onShortest o_paths_layers o_game_stones0 o_game_stones1 o_game_board_size o_game_board_cells o_game_board_all o_game_board_upper o_game_board_lower o_game_board_left o_game_board_right p1).bind fun u2 => some (u2.1, u2.2)))
set_option maxHeartbeats 4000000 in
set_option maxRecDepth 100000 in
theorem c_X5_shortest (l : Launch) (D : va_G) (C : Nat → ClassId) (sz : Nat) (a0 : Nat) (a1 : Nat) (a2 : Nat) (a3 : Nat) (a4 : Nat) (a5 : Nat) (a6 : Nat) (a7 : Nat) (a8 : Nat) (a9 : Nat) (a10 : Nat) (a11 : Nat) (a12 : Nat) (a13 : Nat) (a14 : Nat) (a15 : Nat) (a16 : Nat) (z0 : Nat) (o_threatCount : Int32) (o_textLength : Int32) (o_game_made : Int32) (o_game_known : Int32) (o_game_stones0 : Int64) (o_game_stones1 : Int64) (o_game_list : Nat → Int32) (r_o_trial_board : Nat) (o_trial_made : Int32) (o_trial_known : Int32) (o_trial_stones0 : Int64) (o_trial_stones1 : Int64) (o_trial_list : Nat → Int32) (o_slots : Nat → Option Nat) (o_paths_layers : Nat → Int64) (o_table_count : Int32) (o_table_wins : Nat → Int64) (r_o_contest_board : Nat) (o_contest_from : Int64) (o_contest_to : Int64) (o_contest_spots : Nat → Int64) (o_contest_memo : Nat → Int64) (o_foundBridges : Nat → Int32) (o_threatPlayers : Nat → Int32) (o_threatRegions : Nat → Int64) (o_text : Nat → Int32) (o_game_board_size : Int32) (o_game_board_cells : Int32) (o_game_board_all : Int64) (o_game_board_upper : Int64) (o_game_board_lower : Int64) (o_game_board_left : Int64) (o_game_board_right : Int64) (p1 : Int32) (o : Int64 × (Nat → Int64)) (hf : m_X5_shortest o_game_stones0 o_game_stones1 o_paths_layers o_game_board_size o_game_board_cells o_game_board_all o_game_board_upper o_game_board_lower o_game_board_left o_game_board_right p1 = some o) : Met l yX5_shortest (wl yX5_shortest cX5_shortest 2 (some .long)) R_X5_shortest (PW [.ref a0, .int p1] D C sz (wX5 C a0 a1 a2 a3 a4 a5 a6 a7 a8 a9 a10 a11 a12 a13 a14 a15 a16 o_threatCount o_textLength z0 o_game_made o_game_known o_game_stones0 o_game_stones1 o_game_list r_o_trial_board o_trial_made o_trial_known o_trial_stones0 o_trial_stones1 o_trial_list o_slots o_paths_layers o_table_count o_table_wins r_o_contest_board o_contest_from o_contest_to o_contest_spots o_contest_memo o_foundBridges o_threatPlayers o_threatRegions o_text) [cX0 z0 o_game_board_size o_game_board_cells o_game_board_all o_game_board_upper o_game_board_lower o_game_board_left o_game_board_right]) (QWl D o.1 (wX5 C a0 a1 a2 a3 a4 a5 a6 a7 a8 a9 a10 a11 a12 a13 a14 a15 a16 o_threatCount o_textLength z0 o_game_made o_game_known o_game_stones0 o_game_stones1 o_game_list r_o_trial_board o_trial_made o_trial_known o_trial_stones0 o_trial_stones1 o_trial_list o_slots o.2 o_table_count o_table_wins r_o_contest_board o_contest_from o_contest_to o_contest_spots o_contest_memo o_foundBridges o_threatPlayers o_threatRegions o_text) (va_A (wX5 C a0 a1 a2 a3 a4 a5 a6 a7 a8 a9 a10 a11 a12 a13 a14 a15 a16 o_threatCount o_textLength z0 o_game_made o_game_known o_game_stones0 o_game_stones1 o_game_list r_o_trial_board o_trial_made o_trial_known o_trial_stones0 o_trial_stones1 o_trial_list o_slots o_paths_layers o_table_count o_table_wins r_o_contest_board o_contest_from o_contest_to o_contest_spots o_contest_memo o_foundBridges o_threatPlayers o_threatRegions o_text) sz)) 0 0 (va_A (wX5 C a0 a1 a2 a3 a4 a5 a6 a7 a8 a9 a10 a11 a12 a13 a14 a15 a16 o_threatCount o_textLength z0 o_game_made o_game_known o_game_stones0 o_game_stones1 o_game_list r_o_trial_board o_trial_made o_trial_known o_trial_stones0 o_trial_stones1 o_trial_list o_slots o_paths_layers o_table_count o_table_wins r_o_contest_board o_contest_from o_contest_to o_contest_spots o_contest_memo o_foundBridges o_threatPlayers o_threatRegions o_text) sz) := by
  refine Met_ofC (by decide) ?_
  intro p e s m args below meth c hc hv
  obtain ⟨rfl, hsz, hP, hK, hD0, hO, hN0⟩ := hv
  subst hsz
  have hD := hD0.self (sz := s.heap.size)
  have hN : ∀ q ∈ [cX0 z0 o_game_board_size o_game_board_cells o_game_board_all o_game_board_upper o_game_board_lower o_game_board_left o_game_board_right], ¬ va_A (wX5 C a0 a1 a2 a3 a4 a5 a6 a7 a8 a9 a10 a11 a12 a13 a14 a15 a16 o_threatCount o_textLength z0 o_game_made o_game_known o_game_stones0 o_game_stones1 o_game_list r_o_trial_board o_trial_made o_trial_known o_trial_stones0 o_trial_stones1 o_trial_list o_slots o_paths_layers o_table_count o_table_wins r_o_contest_board o_contest_from o_contest_to o_contest_spots o_contest_memo o_foundBridges o_threatPlayers o_threatRegions o_text) s.heap.size q.1 := hN0
  generalize hAe : va_A (wX5 C a0 a1 a2 a3 a4 a5 a6 a7 a8 a9 a10 a11 a12 a13 a14 a15 a16 o_threatCount o_textLength z0 o_game_made o_game_known o_game_stones0 o_game_stones1 o_game_list r_o_trial_board o_trial_made o_trial_known o_trial_stones0 o_trial_stones1 o_trial_list o_slots o_paths_layers o_table_count o_table_wins r_o_contest_board o_contest_from o_contest_to o_contest_spots o_contest_memo o_foundBridges o_threatPlayers o_threatRegions o_text) s.heap.size = A at hD hN ⊢
  have hA : ∀ q : Nat, s.heap.size ≤ q → A q := fun q h => by rw [← hAe]; exact Or.inr h
  have hS : va_S A s.heap s.heap [] := va_S.rf
  have hx := hc.1
  have hb := hc.2.1
  have hown := hc.2.2.2.2.1
  have hts := hc.2.2.2.2.2.1
  refine en_F rfl (fun ls hl => ?_)
  have hl : lv_has ls 2 [(0, .ref a0), (1, .int p1)] := hl
  refine lv_iload_n hx hb dX5_shortest_0 rfl (lv_at hl 1 rfl) ?_
  refine rcSi (As := [.int p1]) (rest := []) hc k_X5_125 (c_X5_isPlayer l D C p1  _ rfl) ⟨rfl, rfl, Nat.le_of_ble_eq_true rfl, Nat.le_of_ble_eq_true rfl⟩ (hP.sub [] rfl) hK hl rfl rfl (Nat.le_of_ble_eq_true rfl) ⟨Nat.zero_le _, Nat.zero_le _⟩ dX5_shortest_1 ?_
  refine lv_if_ne (tgt := 11) hx hb dX5_shortest_4 (by decide) (fun c1 => ?_) (fun c1 => ?_)
  · have hf := if_f hf c1
    refine lv_aload_n hx hb dX5_shortest_11 rfl (lv_at hl 0 rfl) ?_
    refine va_get (D := D) (ci := 5) (v := .ref a6) (C := RX5) (T := TX5) (N := 12) hx hb hts inX5 hown hK hP 0 rfl rfl 3 (by decide) (hts _ q_140) (fun _ h9 => h9) rfl dX5_shortest_12 ?_
    refine lv_aload_n hx hb dX5_shortest_15 rfl (lv_at hl 0 rfl) ?_
    refine va_get (D := D) (ci := 5) (v := .ref a1) (C := RX5) (T := TX5) (N := 12) hx hb hts inX5 hown hK hP 0 rfl rfl 0 (by decide) (hts _ q_137) (fun _ h9 => h9) rfl dX5_shortest_16 ?_
    refine lv_iload_n hx hb dX5_shortest_19 rfl (lv_at hl 1 rfl) ?_
    obtain ⟨u2, hu2, hf⟩ := bind_some hf
    refine wcVl (A := A) (wc := [cX4 a6 a7, aJ C a7 50 o_paths_layers]) (w1 := [cX4 a6 a7, aJ C a7 50 u2.2]) (rc := [cX3 a1 z0 o_game_made o_game_known a2 o_game_stones0 o_game_stones1, cX0 z0 o_game_board_size o_game_board_cells o_game_board_all o_game_board_upper o_game_board_lower o_game_board_left o_game_board_right]) (As := [.ref a1, .int p1]) (rest := []) hc k_X5_147 (c_X4_onShortest l D C _ a6 a7 a1 z0 o_paths_layers o_game_made o_game_known a2 o_game_stones0 o_game_stones1 o_game_board_size o_game_board_cells o_game_board_all o_game_board_upper o_game_board_lower o_game_board_left o_game_board_right p1  _ hu2) ⟨rfl, rfl, Nat.le_of_ble_eq_true rfl, Nat.le_of_ble_eq_true rfl⟩ hP hD hS hA hK [6, 7] [0, 1, 2, 3, 4, 5, 8, 9, 10, 11, 12, 13, 14, 15, 16] rfl rfl rfl rfl (by decide) ((hP.app (ro_S hO hN hS)).sub [1, 17] rfl) (Ap_cons (apart_w hP hD [6, 7] rfl 1 rfl (by decide)) (Ap_cons (fun h9 => hN _ (List.mem_of_getElem? (i := 0) rfl) (va_free (wc := [cX4 a6 a7, aJ C a7 50 o_paths_layers]) hD hS hA [6, 7] rfl _ h9)) Ap_nil)) (q0 := 0) rfl rfl rfl hl rfl rfl (Nat.le_of_ble_eq_true rfl) ⟨Nat.zero_le _, Nat.zero_le _⟩ dX5_shortest_20 (fun H locs hP hD hS => ?_)
    have hP : va_P D vwCl (wX5 C a0 a1 a2 a3 a4 a5 a6 a7 a8 a9 a10 a11 a12 a13 a14 a15 a16 o_threatCount o_textLength z0 o_game_made o_game_known o_game_stones0 o_game_stones1 o_game_list r_o_trial_board o_trial_made o_trial_known o_trial_stones0 o_trial_stones1 o_trial_list o_slots u2.2 o_table_count o_table_wins r_o_contest_board o_contest_from o_contest_to o_contest_spots o_contest_memo o_foundBridges o_threatPlayers o_threatRegions o_text) H := hP.sub [0, 1, 2, 3, 4, 5, 15, 16, 6, 7, 8, 9, 10, 11, 12, 13, 14] rfl
    have hD : va_D A (wX5 C a0 a1 a2 a3 a4 a5 a6 a7 a8 a9 a10 a11 a12 a13 a14 a15 a16 o_threatCount o_textLength z0 o_game_made o_game_known o_game_stones0 o_game_stones1 o_game_list r_o_trial_board o_trial_made o_trial_known o_trial_stones0 o_trial_stones1 o_trial_list o_slots u2.2 o_table_count o_table_wins r_o_contest_board o_contest_from o_contest_to o_contest_spots o_contest_memo o_foundBridges o_threatPlayers o_threatRegions o_text) := hD.sub [0, 1, 2, 3, 4, 5, 15, 16, 6, 7, 8, 9, 10, 11, 12, 13, 14] rfl rfl
    have hf := Option.some.inj hf
    subst hf
    exact rWl hc rfl hP hD hS dX5_shortest_23
  · have hf := if_t hf c1
    refine lv_ldc2 (v := (-11 : Int64)) hx hb hown (hts _ q_302) dX5_shortest_7 ?_
    have hf := Option.some.inj hf
    subst hf
    exact rWl hc rfl hP hD hS dX5_shortest_10
abbrev R_X5_cut : Room := { frames := 5, cells := 0, slots := 0, locals := 141 }
def m_X5_cut (o_game_stones0 : Int64) (o_game_stones1 : Int64) (o_paths_layers : Nat → Int64) (o_game_board_size : Int32) (o_game_board_cells : Int32) (o_game_board_all : Int64) (o_game_board_upper : Int64) (o_game_board_lower : Int64) (o_game_board_left : Int64) (o_game_board_right : Int64) (p1 : Int32) : Option (Int32 × (Nat → Int64)) := (if (m_X5_isPlayer p1) = 0 then some ((-11 : Int32), o_paths_layers) else ((m_X4_measure o_paths_layers o_game_stones0 o_game_stones1 o_game_board_size o_game_board_cells o_game_board_all o_game_board_upper o_game_board_lower o_game_board_left o_game_board_right ((1 : Int32) - p1)).bind fun u2 => some (u2.1, u2.2)))
set_option maxHeartbeats 4000000 in
set_option maxRecDepth 100000 in
theorem c_X5_cut (l : Launch) (D : va_G) (C : Nat → ClassId) (sz : Nat) (a0 : Nat) (a1 : Nat) (a2 : Nat) (a3 : Nat) (a4 : Nat) (a5 : Nat) (a6 : Nat) (a7 : Nat) (a8 : Nat) (a9 : Nat) (a10 : Nat) (a11 : Nat) (a12 : Nat) (a13 : Nat) (a14 : Nat) (a15 : Nat) (a16 : Nat) (z0 : Nat) (o_threatCount : Int32) (o_textLength : Int32) (o_game_made : Int32) (o_game_known : Int32) (o_game_stones0 : Int64) (o_game_stones1 : Int64) (o_game_list : Nat → Int32) (r_o_trial_board : Nat) (o_trial_made : Int32) (o_trial_known : Int32) (o_trial_stones0 : Int64) (o_trial_stones1 : Int64) (o_trial_list : Nat → Int32) (o_slots : Nat → Option Nat) (o_paths_layers : Nat → Int64) (o_table_count : Int32) (o_table_wins : Nat → Int64) (r_o_contest_board : Nat) (o_contest_from : Int64) (o_contest_to : Int64) (o_contest_spots : Nat → Int64) (o_contest_memo : Nat → Int64) (o_foundBridges : Nat → Int32) (o_threatPlayers : Nat → Int32) (o_threatRegions : Nat → Int64) (o_text : Nat → Int32) (o_game_board_size : Int32) (o_game_board_cells : Int32) (o_game_board_all : Int64) (o_game_board_upper : Int64) (o_game_board_lower : Int64) (o_game_board_left : Int64) (o_game_board_right : Int64) (p1 : Int32) (o : Int32 × (Nat → Int64)) (hf : m_X5_cut o_game_stones0 o_game_stones1 o_paths_layers o_game_board_size o_game_board_cells o_game_board_all o_game_board_upper o_game_board_lower o_game_board_left o_game_board_right p1 = some o) : Met l yX5_cut (wl yX5_cut cX5_cut 2 (some .int)) R_X5_cut (PW [.ref a0, .int p1] D C sz (wX5 C a0 a1 a2 a3 a4 a5 a6 a7 a8 a9 a10 a11 a12 a13 a14 a15 a16 o_threatCount o_textLength z0 o_game_made o_game_known o_game_stones0 o_game_stones1 o_game_list r_o_trial_board o_trial_made o_trial_known o_trial_stones0 o_trial_stones1 o_trial_list o_slots o_paths_layers o_table_count o_table_wins r_o_contest_board o_contest_from o_contest_to o_contest_spots o_contest_memo o_foundBridges o_threatPlayers o_threatRegions o_text) [cX0 z0 o_game_board_size o_game_board_cells o_game_board_all o_game_board_upper o_game_board_lower o_game_board_left o_game_board_right]) (QWi D o.1 (wX5 C a0 a1 a2 a3 a4 a5 a6 a7 a8 a9 a10 a11 a12 a13 a14 a15 a16 o_threatCount o_textLength z0 o_game_made o_game_known o_game_stones0 o_game_stones1 o_game_list r_o_trial_board o_trial_made o_trial_known o_trial_stones0 o_trial_stones1 o_trial_list o_slots o.2 o_table_count o_table_wins r_o_contest_board o_contest_from o_contest_to o_contest_spots o_contest_memo o_foundBridges o_threatPlayers o_threatRegions o_text) (va_A (wX5 C a0 a1 a2 a3 a4 a5 a6 a7 a8 a9 a10 a11 a12 a13 a14 a15 a16 o_threatCount o_textLength z0 o_game_made o_game_known o_game_stones0 o_game_stones1 o_game_list r_o_trial_board o_trial_made o_trial_known o_trial_stones0 o_trial_stones1 o_trial_list o_slots o_paths_layers o_table_count o_table_wins r_o_contest_board o_contest_from o_contest_to o_contest_spots o_contest_memo o_foundBridges o_threatPlayers o_threatRegions o_text) sz)) 0 0 (va_A (wX5 C a0 a1 a2 a3 a4 a5 a6 a7 a8 a9 a10 a11 a12 a13 a14 a15 a16 o_threatCount o_textLength z0 o_game_made o_game_known o_game_stones0 o_game_stones1 o_game_list r_o_trial_board o_trial_made o_trial_known o_trial_stones0 o_trial_stones1 o_trial_list o_slots o_paths_layers o_table_count o_table_wins r_o_contest_board o_contest_from o_contest_to o_contest_spots o_contest_memo o_foundBridges o_threatPlayers o_threatRegions o_text) sz) := by
  refine Met_ofC (by decide) ?_
  intro p e s m args below meth c hc hv
  obtain ⟨rfl, hsz, hP, hK, hD0, hO, hN0⟩ := hv
  subst hsz
  have hD := hD0.self (sz := s.heap.size)
  have hN : ∀ q ∈ [cX0 z0 o_game_board_size o_game_board_cells o_game_board_all o_game_board_upper o_game_board_lower o_game_board_left o_game_board_right], ¬ va_A (wX5 C a0 a1 a2 a3 a4 a5 a6 a7 a8 a9 a10 a11 a12 a13 a14 a15 a16 o_threatCount o_textLength z0 o_game_made o_game_known o_game_stones0 o_game_stones1 o_game_list r_o_trial_board o_trial_made o_trial_known o_trial_stones0 o_trial_stones1 o_trial_list o_slots o_paths_layers o_table_count o_table_wins r_o_contest_board o_contest_from o_contest_to o_contest_spots o_contest_memo o_foundBridges o_threatPlayers o_threatRegions o_text) s.heap.size q.1 := hN0
  generalize hAe : va_A (wX5 C a0 a1 a2 a3 a4 a5 a6 a7 a8 a9 a10 a11 a12 a13 a14 a15 a16 o_threatCount o_textLength z0 o_game_made o_game_known o_game_stones0 o_game_stones1 o_game_list r_o_trial_board o_trial_made o_trial_known o_trial_stones0 o_trial_stones1 o_trial_list o_slots o_paths_layers o_table_count o_table_wins r_o_contest_board o_contest_from o_contest_to o_contest_spots o_contest_memo o_foundBridges o_threatPlayers o_threatRegions o_text) s.heap.size = A at hD hN ⊢
  have hA : ∀ q : Nat, s.heap.size ≤ q → A q := fun q h => by rw [← hAe]; exact Or.inr h
  have hS : va_S A s.heap s.heap [] := va_S.rf
  have hx := hc.1
  have hb := hc.2.1
  have hown := hc.2.2.2.2.1
  have hts := hc.2.2.2.2.2.1
  refine en_F rfl (fun ls hl => ?_)
  have hl : lv_has ls 2 [(0, .ref a0), (1, .int p1)] := hl
  refine lv_iload_n hx hb dX5_cut_0 rfl (lv_at hl 1 rfl) ?_
  refine rcSi (As := [.int p1]) (rest := []) hc k_X5_125 (c_X5_isPlayer l D C p1  _ rfl) ⟨rfl, rfl, Nat.le_of_ble_eq_true rfl, Nat.le_of_ble_eq_true rfl⟩ (hP.sub [] rfl) hK hl rfl rfl (Nat.le_of_ble_eq_true rfl) ⟨Nat.zero_le _, Nat.zero_le _⟩ dX5_cut_1 ?_
  refine lv_if_ne (tgt := 10) hx hb dX5_cut_4 (by decide) (fun c1 => ?_) (fun c1 => ?_)
  · have hf := if_f hf c1
    refine lv_aload_n hx hb dX5_cut_10 rfl (lv_at hl 0 rfl) ?_
    refine va_get (D := D) (ci := 5) (v := .ref a6) (C := RX5) (T := TX5) (N := 12) hx hb hts inX5 hown hK hP 0 rfl rfl 3 (by decide) (hts _ q_140) (fun _ h9 => h9) rfl dX5_cut_11 ?_
    refine lv_aload_n hx hb dX5_cut_14 rfl (lv_at hl 0 rfl) ?_
    refine va_get (D := D) (ci := 5) (v := .ref a1) (C := RX5) (T := TX5) (N := 12) hx hb hts inX5 hown hK hP 0 rfl rfl 0 (by decide) (hts _ q_137) (fun _ h9 => h9) rfl dX5_cut_15 ?_
    refine lv_iconst (v := (1 : Int32)) hx hb dX5_cut_18 (by decide) ?_
    refine lv_iload_n hx hb dX5_cut_19 rfl (lv_at hl 1 rfl) ?_
    refine lv_isub hx hb dX5_cut_20 ?_
    obtain ⟨u2, hu2, hf⟩ := bind_some hf
    refine wcVi (A := A) (wc := [cX4 a6 a7, aJ C a7 50 o_paths_layers]) (w1 := [cX4 a6 a7, aJ C a7 50 u2.2]) (rc := [cX3 a1 z0 o_game_made o_game_known a2 o_game_stones0 o_game_stones1, cX0 z0 o_game_board_size o_game_board_cells o_game_board_all o_game_board_upper o_game_board_lower o_game_board_left o_game_board_right]) (As := [.ref a1, .int ((1 : Int32) - p1)]) (rest := []) hc k_X5_143 (c_X4_measure l D C _ a6 a7 a1 z0 o_paths_layers o_game_made o_game_known a2 o_game_stones0 o_game_stones1 o_game_board_size o_game_board_cells o_game_board_all o_game_board_upper o_game_board_lower o_game_board_left o_game_board_right ((1 : Int32) - p1)  _ hu2) ⟨rfl, rfl, Nat.le_of_ble_eq_true rfl, Nat.le_of_ble_eq_true rfl⟩ hP hD hS hA hK [6, 7] [0, 1, 2, 3, 4, 5, 8, 9, 10, 11, 12, 13, 14, 15, 16] rfl rfl rfl rfl (by decide) ((hP.app (ro_S hO hN hS)).sub [1, 17] rfl) (Ap_cons (apart_w hP hD [6, 7] rfl 1 rfl (by decide)) (Ap_cons (fun h9 => hN _ (List.mem_of_getElem? (i := 0) rfl) (va_free (wc := [cX4 a6 a7, aJ C a7 50 o_paths_layers]) hD hS hA [6, 7] rfl _ h9)) Ap_nil)) (q0 := 0) rfl rfl rfl hl rfl rfl (Nat.le_of_ble_eq_true rfl) ⟨Nat.zero_le _, Nat.zero_le _⟩ dX5_cut_21 (fun H locs hP hD hS => ?_)
    have hP : va_P D vwCl (wX5 C a0 a1 a2 a3 a4 a5 a6 a7 a8 a9 a10 a11 a12 a13 a14 a15 a16 o_threatCount o_textLength z0 o_game_made o_game_known o_game_stones0 o_game_stones1 o_game_list r_o_trial_board o_trial_made o_trial_known o_trial_stones0 o_trial_stones1 o_trial_list o_slots u2.2 o_table_count o_table_wins r_o_contest_board o_contest_from o_contest_to o_contest_spots o_contest_memo o_foundBridges o_threatPlayers o_threatRegions o_text) H := hP.sub [0, 1, 2, 3, 4, 5, 15, 16, 6, 7, 8, 9, 10, 11, 12, 13, 14] rfl
    have hD : va_D A (wX5 C a0 a1 a2 a3 a4 a5 a6 a7 a8 a9 a10 a11 a12 a13 a14 a15 a16 o_threatCount o_textLength z0 o_game_made o_game_known o_game_stones0 o_game_stones1 o_game_list r_o_trial_board o_trial_made o_trial_known o_trial_stones0 o_trial_stones1 o_trial_list o_slots u2.2 o_table_count o_table_wins r_o_contest_board o_contest_from o_contest_to o_contest_spots o_contest_memo o_foundBridges o_threatPlayers o_threatRegions o_text) := hD.sub [0, 1, 2, 3, 4, 5, 15, 16, 6, 7, 8, 9, 10, 11, 12, 13, 14] rfl rfl
    have hf := Option.some.inj hf
    subst hf
    exact rWi hc rfl hP hD hS dX5_cut_24
  · have hf := if_t hf c1
    refine lv_bipush (v := (-11 : Int32)) hx hb dX5_cut_7 (by decide) ?_
    have hf := Option.some.inj hf
    subst hf
    exact rWi hc rfl hP hD hS dX5_cut_9
abbrev R_X5_bridgePartners : Room := { frames := 1, cells := 0, slots := 0, locals := 26 }
def m_X5_bridgePartners (o_game_board_size : Int32) (o_game_board_all : Int64) (o_game_board_left : Int64) (o_game_board_right : Int64) (p1 : Int64) (p2 : Int64) : Int64 := (((p2 &&& (-(jshl p1 (1 : Int32)))) &&& (m_X0_around o_game_board_size o_game_board_all o_game_board_left o_game_board_right (m_X0_around o_game_board_size o_game_board_all o_game_board_left o_game_board_right p1))) &&& ((m_X0_around o_game_board_size o_game_board_all o_game_board_left o_game_board_right p1) ^^^ (-1 : Int64)))
set_option maxHeartbeats 4000000 in
set_option maxRecDepth 100000 in
theorem c_X5_bridgePartners (l : Launch) (D : va_G) (C : Nat → ClassId) (z0 : Nat) (z1 : Nat) (z2 : Nat) (r_o_trial : Nat) (r_o_slots : Nat) (r_o_paths : Nat) (r_o_table : Nat) (r_o_contest : Nat) (r_o_foundBridges : Nat) (r_o_threatPlayers : Nat) (r_o_threatRegions : Nat) (o_threatCount : Int32) (r_o_text : Nat) (o_textLength : Int32) (o_game_made : Int32) (o_game_known : Int32) (r_o_game_list : Nat) (o_game_stones0 : Int64) (o_game_stones1 : Int64) (o_game_board_size : Int32) (o_game_board_cells : Int32) (o_game_board_all : Int64) (o_game_board_upper : Int64) (o_game_board_lower : Int64) (o_game_board_left : Int64) (o_game_board_right : Int64) (p1 : Int64) (p2 : Int64) (o : Int64) (hf : m_X5_bridgePartners o_game_board_size o_game_board_all o_game_board_left o_game_board_right p1 p2 = o) : Met l yX5_bridgePartners (wl yX5_bridgePartners cX5_bridgePartners 9 (some .long)) R_X5_bridgePartners (PR [.ref z0, .long p1, .long p2] D C [cX5 z0 z1 r_o_trial r_o_slots r_o_paths r_o_table r_o_contest r_o_foundBridges r_o_threatPlayers r_o_threatRegions o_threatCount r_o_text o_textLength, cX3 z1 z2 o_game_made o_game_known r_o_game_list o_game_stones0 o_game_stones1, cX0 z2 o_game_board_size o_game_board_cells o_game_board_all o_game_board_upper o_game_board_lower o_game_board_left o_game_board_right]) (vp_Sl (fun r => r = o)) 0 0 (fun _ => False) := by
  refine Met_ofC (by decide) ?_
  intro p e s m args below meth c hc hv
  obtain ⟨rfl, hP, hK⟩ := hv
  have hx := hc.1
  have hb := hc.2.1
  have hown := hc.2.2.2.2.1
  have hts := hc.2.2.2.2.2.1
  refine en_F rfl (fun ls hl => ?_)
  have hl : lv_has ls 9 [(0, .ref z0), (1, .long p1), (3, .long p2)] := hl
  refine lv_lload_n hx hb dX5_bridgePartners_0 rfl (lv_at hl 1 rfl) ?_
  refine lv_iconst (v := (1 : Int32)) hx hb dX5_bridgePartners_1 (by decide) ?_
  refine lv_lshl (v := (jshl p1 (1 : Int32))) hx hb dX5_bridgePartners_2 rfl ?_
  refine lv_lneg hx hb dX5_bridgePartners_3 ?_
  refine lv_lstore (lv' := [(5, .long (-(jshl p1 (1 : Int32)))), (0, .ref z0), (1, .long p1), (3, .long p2)]) hx hb dX5_bridgePartners_4 hl (by decide) rfl (fun ls hl => ?_)
  refine lv_aload_n hx hb dX5_bridgePartners_6 rfl (lv_at hl 1 rfl) ?_
  refine va_get (D := D) (ci := 5) (v := .ref z1) (C := RX5) (T := TX5) (N := 12) hx hb hts inX5 hown hK hP 0 rfl rfl 0 (by decide) (hts _ q_137) (fun _ h9 => h9) rfl dX5_bridgePartners_7 ?_
  refine va_get (D := D) (ci := 3) (v := .ref z2) (C := RX3) (T := TX3) (N := 6) hx hb hts inX3 hown hK hP 1 rfl rfl 0 (by decide) (hts _ q_94) (fun _ h9 => h9) rfl dX5_bridgePartners_10 ?_
  refine lv_lload_n hx hb dX5_bridgePartners_13 rfl (lv_at hl 2 rfl) ?_
  refine rcVl (As := [.long p1]) (rest := []) hc k_X5_130 (c_X0_around l D C z2 o_game_board_size o_game_board_cells o_game_board_all o_game_board_upper o_game_board_lower o_game_board_left o_game_board_right p1  _ rfl) ⟨rfl, rfl, Nat.le_of_ble_eq_true rfl, Nat.le_of_ble_eq_true rfl⟩ (hP.sub [2] rfl) hK (q0 := 0) rfl rfl rfl hl rfl rfl (Nat.le_of_ble_eq_true rfl) ⟨Nat.zero_le _, Nat.zero_le _⟩ dX5_bridgePartners_14 ?_
  refine lv_lstore (lv' := [(7, .long (m_X0_around o_game_board_size o_game_board_all o_game_board_left o_game_board_right p1)), (5, .long (-(jshl p1 (1 : Int32)))), (0, .ref z0), (1, .long p1), (3, .long p2)]) hx hb dX5_bridgePartners_17 hl (by decide) rfl (fun ls hl => ?_)
  refine lv_lload_n hx hb dX5_bridgePartners_19 rfl (lv_at hl 4 rfl) ?_
  refine lv_lload hx hb dX5_bridgePartners_20 (lv_at hl 1 rfl) ?_
  refine lv_land hx hb dX5_bridgePartners_22 ?_
  refine lv_aload_n hx hb dX5_bridgePartners_23 rfl (lv_at hl 2 rfl) ?_
  refine va_get (D := D) (ci := 5) (v := .ref z1) (C := RX5) (T := TX5) (N := 12) hx hb hts inX5 hown hK hP 0 rfl rfl 0 (by decide) (hts _ q_137) (fun _ h9 => h9) rfl dX5_bridgePartners_24 ?_
  refine va_get (D := D) (ci := 3) (v := .ref z2) (C := RX3) (T := TX3) (N := 6) hx hb hts inX3 hown hK hP 1 rfl rfl 0 (by decide) (hts _ q_94) (fun _ h9 => h9) rfl dX5_bridgePartners_27 ?_
  refine lv_lload hx hb dX5_bridgePartners_30 (lv_at hl 0 rfl) ?_
  refine rcVl (As := [.long (m_X0_around o_game_board_size o_game_board_all o_game_board_left o_game_board_right p1)]) (rest := [.long (p2 &&& (-(jshl p1 (1 : Int32))))]) hc k_X5_130 (c_X0_around l D C z2 o_game_board_size o_game_board_cells o_game_board_all o_game_board_upper o_game_board_lower o_game_board_left o_game_board_right (m_X0_around o_game_board_size o_game_board_all o_game_board_left o_game_board_right p1)  _ rfl) ⟨rfl, rfl, Nat.le_of_ble_eq_true rfl, Nat.le_of_ble_eq_true rfl⟩ (hP.sub [2] rfl) hK (q0 := 0) rfl rfl rfl hl rfl rfl (Nat.le_of_ble_eq_true rfl) ⟨Nat.zero_le _, Nat.zero_le _⟩ dX5_bridgePartners_32 ?_
  refine lv_land hx hb dX5_bridgePartners_35 ?_
  refine lv_lload hx hb dX5_bridgePartners_36 (lv_at hl 0 rfl) ?_
  refine lv_ldc2 (v := (-1 : Int64)) hx hb hown (hts _ q_316) dX5_bridgePartners_38 ?_
  refine lv_lxor hx hb dX5_bridgePartners_41 ?_
  refine lv_land hx hb dX5_bridgePartners_42 ?_
  exact rRl hc hf dX5_bridgePartners_43
abbrev R_X5_carrierOf : Room := { frames := 1, cells := 0, slots := 0, locals := 26 }
def m_X5_carrierOf (o_game_board_size : Int32) (o_game_board_all : Int64) (o_game_board_left : Int64) (o_game_board_right : Int64) (p1 : Int32) : Int64 := ((m_X0_around o_game_board_size o_game_board_all o_game_board_left o_game_board_right (jshl (1 : Int64) (jiushr p1 (6 : Int32)))) &&& (m_X0_around o_game_board_size o_game_board_all o_game_board_left o_game_board_right (jshl (1 : Int64) (p1 &&& (63 : Int32)))))
set_option maxHeartbeats 4000000 in
set_option maxRecDepth 100000 in
theorem c_X5_carrierOf (l : Launch) (D : va_G) (C : Nat → ClassId) (z0 : Nat) (z1 : Nat) (z2 : Nat) (r_o_trial : Nat) (r_o_slots : Nat) (r_o_paths : Nat) (r_o_table : Nat) (r_o_contest : Nat) (r_o_foundBridges : Nat) (r_o_threatPlayers : Nat) (r_o_threatRegions : Nat) (o_threatCount : Int32) (r_o_text : Nat) (o_textLength : Int32) (o_game_made : Int32) (o_game_known : Int32) (r_o_game_list : Nat) (o_game_stones0 : Int64) (o_game_stones1 : Int64) (o_game_board_size : Int32) (o_game_board_cells : Int32) (o_game_board_all : Int64) (o_game_board_upper : Int64) (o_game_board_lower : Int64) (o_game_board_left : Int64) (o_game_board_right : Int64) (p1 : Int32) (o : Int64) (hf : m_X5_carrierOf o_game_board_size o_game_board_all o_game_board_left o_game_board_right p1 = o) : Met l yX5_carrierOf (wl yX5_carrierOf cX5_carrierOf 3 (some .long)) R_X5_carrierOf (PR [.ref z0, .int p1] D C [cX5 z0 z1 r_o_trial r_o_slots r_o_paths r_o_table r_o_contest r_o_foundBridges r_o_threatPlayers r_o_threatRegions o_threatCount r_o_text o_textLength, cX3 z1 z2 o_game_made o_game_known r_o_game_list o_game_stones0 o_game_stones1, cX0 z2 o_game_board_size o_game_board_cells o_game_board_all o_game_board_upper o_game_board_lower o_game_board_left o_game_board_right]) (vp_Sl (fun r => r = o)) 0 0 (fun _ => False) := by
  refine Met_ofC (by decide) ?_
  intro p e s m args below meth c hc hv
  obtain ⟨rfl, hP, hK⟩ := hv
  have hx := hc.1
  have hb := hc.2.1
  have hown := hc.2.2.2.2.1
  have hts := hc.2.2.2.2.2.1
  refine en_F rfl (fun ls hl => ?_)
  have hl : lv_has ls 3 [(0, .ref z0), (1, .int p1)] := hl
  refine lv_aload_n hx hb dX5_carrierOf_0 rfl (lv_at hl 0 rfl) ?_
  refine va_get (D := D) (ci := 5) (v := .ref z1) (C := RX5) (T := TX5) (N := 12) hx hb hts inX5 hown hK hP 0 rfl rfl 0 (by decide) (hts _ q_137) (fun _ h9 => h9) rfl dX5_carrierOf_1 ?_
  refine va_get (D := D) (ci := 3) (v := .ref z2) (C := RX3) (T := TX3) (N := 6) hx hb hts inX3 hown hK hP 1 rfl rfl 0 (by decide) (hts _ q_94) (fun _ h9 => h9) rfl dX5_carrierOf_4 ?_
  refine lv_astore_n (lv' := [(2, .ref z2), (0, .ref z0), (1, .int p1)]) hx hb dX5_carrierOf_7 rfl hl (by decide) rfl (fun ls hl => ?_)
  refine lv_aload_n hx hb dX5_carrierOf_8 rfl (lv_at hl 0 rfl) ?_
  refine lv_lconst (v := (1 : Int64)) hx hb dX5_carrierOf_9 (by decide) ?_
  refine lv_iload_n hx hb dX5_carrierOf_10 rfl (lv_at hl 2 rfl) ?_
  refine lv_bipush (v := (6 : Int32)) hx hb dX5_carrierOf_11 (by decide) ?_
  refine lv_iushr (v := (jiushr p1 (6 : Int32))) hx hb dX5_carrierOf_13 rfl ?_
  refine lv_lshl (v := (jshl (1 : Int64) (jiushr p1 (6 : Int32)))) hx hb dX5_carrierOf_14 rfl ?_
  refine rcVl (As := [.long (jshl (1 : Int64) (jiushr p1 (6 : Int32)))]) (rest := []) hc k_X5_130 (c_X0_around l D C z2 o_game_board_size o_game_board_cells o_game_board_all o_game_board_upper o_game_board_lower o_game_board_left o_game_board_right (jshl (1 : Int64) (jiushr p1 (6 : Int32)))  _ rfl) ⟨rfl, rfl, Nat.le_of_ble_eq_true rfl, Nat.le_of_ble_eq_true rfl⟩ (hP.sub [2] rfl) hK (q0 := 0) rfl rfl rfl hl rfl rfl (Nat.le_of_ble_eq_true rfl) ⟨Nat.zero_le _, Nat.zero_le _⟩ dX5_carrierOf_15 ?_
  refine lv_aload_n hx hb dX5_carrierOf_18 rfl (lv_at hl 0 rfl) ?_
  refine lv_lconst (v := (1 : Int64)) hx hb dX5_carrierOf_19 (by decide) ?_
  refine lv_iload_n hx hb dX5_carrierOf_20 rfl (lv_at hl 2 rfl) ?_
  refine lv_bipush (v := (63 : Int32)) hx hb dX5_carrierOf_21 (by decide) ?_
  refine lv_iand hx hb dX5_carrierOf_23 ?_
  refine lv_lshl (v := (jshl (1 : Int64) (p1 &&& (63 : Int32)))) hx hb dX5_carrierOf_24 rfl ?_
  refine rcVl (As := [.long (jshl (1 : Int64) (p1 &&& (63 : Int32)))]) (rest := [.long (m_X0_around o_game_board_size o_game_board_all o_game_board_left o_game_board_right (jshl (1 : Int64) (jiushr p1 (6 : Int32))))]) hc k_X5_130 (c_X0_around l D C z2 o_game_board_size o_game_board_cells o_game_board_all o_game_board_upper o_game_board_lower o_game_board_left o_game_board_right (jshl (1 : Int64) (p1 &&& (63 : Int32)))  _ rfl) ⟨rfl, rfl, Nat.le_of_ble_eq_true rfl, Nat.le_of_ble_eq_true rfl⟩ (hP.sub [2] rfl) hK (q0 := 0) rfl rfl rfl hl rfl rfl (Nat.le_of_ble_eq_true rfl) ⟨Nat.zero_le _, Nat.zero_le _⟩ dX5_carrierOf_25 ?_
  refine lv_land hx hb dX5_carrierOf_28 ?_
  exact rRl hc hf dX5_carrierOf_29

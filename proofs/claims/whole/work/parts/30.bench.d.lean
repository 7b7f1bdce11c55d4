abbrev R_X5_clearThreats : Room := { frames := 0, cells := 0, slots := 0, locals := 0 }
def m_X5_clearThreats (o_threatCount : Int32) : Int32 × Int32 := (o_threatCount, (0 : Int32))
set_option maxHeartbeats 4000000 in
set_option maxRecDepth 100000 in
theorem c_X5_clearThreats (l : Launch) (D : va_G) (C : Nat → ClassId) (sz : Nat) (a0 : Nat) (a1 : Nat) (a2 : Nat) (a3 : Nat) (a4 : Nat) (a5 : Nat) (a6 : Nat) (a7 : Nat) (a8 : Nat) (a9 : Nat) (a10 : Nat) (a11 : Nat) (a12 : Nat) (a13 : Nat) (a14 : Nat) (a15 : Nat) (a16 : Nat) (o_threatCount : Int32) (o_textLength : Int32) (r_o_game_board : Nat) (o_game_made : Int32) (o_game_known : Int32) (o_game_stones0 : Int64) (o_game_stones1 : Int64) (o_game_list : Nat → Int32) (r_o_trial_board : Nat) (o_trial_made : Int32) (o_trial_known : Int32) (o_trial_stones0 : Int64) (o_trial_stones1 : Int64) (o_trial_list : Nat → Int32) (o_slots : Nat → Option Nat) (o_paths_layers : Nat → Int64) (o_table_count : Int32) (o_table_wins : Nat → Int64) (r_o_contest_board : Nat) (o_contest_from : Int64) (o_contest_to : Int64) (o_contest_spots : Nat → Int64) (o_contest_memo : Nat → Int64) (o_foundBridges : Nat → Int32) (o_threatPlayers : Nat → Int32) (o_threatRegions : Nat → Int64) (o_text : Nat → Int32) (o : Int32 × Int32) (hf : m_X5_clearThreats o_threatCount = o) : Met l yX5_clearThreats (wl yX5_clearThreats cX5_clearThreats 2 (some .int)) R_X5_clearThreats (PW [.ref a0] D C sz (wX5 C a0 a1 a2 a3 a4 a5 a6 a7 a8 a9 a10 a11 a12 a13 a14 a15 a16 o_threatCount o_textLength r_o_game_board o_game_made o_game_known o_game_stones0 o_game_stones1 o_game_list r_o_trial_board o_trial_made o_trial_known o_trial_stones0 o_trial_stones1 o_trial_list o_slots o_paths_layers o_table_count o_table_wins r_o_contest_board o_contest_from o_contest_to o_contest_spots o_contest_memo o_foundBridges o_threatPlayers o_threatRegions o_text) ([] : va_W)) (QWi D o.1 (wX5 C a0 a1 a2 a3 a4 a5 a6 a7 a8 a9 a10 a11 a12 a13 a14 a15 a16 o.2 o_textLength r_o_game_board o_game_made o_game_known o_game_stones0 o_game_stones1 o_game_list r_o_trial_board o_trial_made o_trial_known o_trial_stones0 o_trial_stones1 o_trial_list o_slots o_paths_layers o_table_count o_table_wins r_o_contest_board o_contest_from o_contest_to o_contest_spots o_contest_memo o_foundBridges o_threatPlayers o_threatRegions o_text) (va_A (wX5 C a0 a1 a2 a3 a4 a5 a6 a7 a8 a9 a10 a11 a12 a13 a14 a15 a16 o_threatCount o_textLength r_o_game_board o_game_made o_game_known o_game_stones0 o_game_stones1 o_game_list r_o_trial_board o_trial_made o_trial_known o_trial_stones0 o_trial_stones1 o_trial_list o_slots o_paths_layers o_table_count o_table_wins r_o_contest_board o_contest_from o_contest_to o_contest_spots o_contest_memo o_foundBridges o_threatPlayers o_threatRegions o_text) sz)) 0 0 (va_A (wX5 C a0 a1 a2 a3 a4 a5 a6 a7 a8 a9 a10 a11 a12 a13 a14 a15 a16 o_threatCount o_textLength r_o_game_board o_game_made o_game_known o_game_stones0 o_game_stones1 o_game_list r_o_trial_board o_trial_made o_trial_known o_trial_stones0 o_trial_stones1 o_trial_list o_slots o_paths_layers o_table_count o_table_wins r_o_contest_board o_contest_from o_contest_to o_contest_spots o_contest_memo o_foundBridges o_threatPlayers o_threatRegions o_text) sz) := by
  refine Met_ofC (by decide) ?_
  intro p e s m args below meth c hc hv
  obtain ⟨rfl, hsz, hP, hK, hD0, hO, hN0⟩ := hv
  subst hsz
  have hD := hD0.self (sz := s.heap.size)
  have hN : ∀ q ∈ ([] : va_W), ¬ va_A (wX5 C a0 a1 a2 a3 a4 a5 a6 a7 a8 a9 a10 a11 a12 a13 a14 a15 a16 o_threatCount o_textLength r_o_game_board o_game_made o_game_known o_game_stones0 o_game_stones1 o_game_list r_o_trial_board o_trial_made o_trial_known o_trial_stones0 o_trial_stones1 o_trial_list o_slots o_paths_layers o_table_count o_table_wins r_o_contest_board o_contest_from o_contest_to o_contest_spots o_contest_memo o_foundBridges o_threatPlayers o_threatRegions o_text) s.heap.size q.1 := hN0
  generalize hAe : va_A (wX5 C a0 a1 a2 a3 a4 a5 a6 a7 a8 a9 a10 a11 a12 a13 a14 a15 a16 o_threatCount o_textLength r_o_game_board o_game_made o_game_known o_game_stones0 o_game_stones1 o_game_list r_o_trial_board o_trial_made o_trial_known o_trial_stones0 o_trial_stones1 o_trial_list o_slots o_paths_layers o_table_count o_table_wins r_o_contest_board o_contest_from o_contest_to o_contest_spots o_contest_memo o_foundBridges o_threatPlayers o_threatRegions o_text) s.heap.size = A at hD hN ⊢
  have hA : ∀ q : Nat, s.heap.size ≤ q → A q := fun q h => by rw [← hAe]; exact Or.inr h
  have hS : va_S A s.heap s.heap [] := va_S.rf
  have hx := hc.1
  have hb := hc.2.1
  have hown := hc.2.2.2.2.1
  have hts := hc.2.2.2.2.2.1
  refine en_F rfl (fun ls hl => ?_)
  have hl : lv_has ls 2 [(0, .ref a0)] := hl
  refine lv_aload_n hx hb dX5_clearThreats_0 rfl (lv_at hl 0 rfl) ?_
  refine va_get (D := D) (ci := 5) (v := .int o_threatCount) (C := RX5) (T := TX5) (N := 12) hx hb hts inX5 hown hK hP 0 rfl rfl 9 (by decide) (hts _ q_146) (fun _ h9 => h9) rfl dX5_clearThreats_1 ?_
  refine lv_istore_n (lv' := [(1, .int o_threatCount), (0, .ref a0)]) hx hb dX5_clearThreats_4 rfl hl (by decide) rfl (fun ls hl => ?_)
  refine lv_aload_n hx hb dX5_clearThreats_5 rfl (lv_at hl 1 rfl) ?_
  refine lv_iconst (v := (0 : Int32)) hx hb dX5_clearThreats_6 (by decide) ?_
  refine va_put (D := D) (ci := 5) (v := .int (0 : Int32)) (ty := .int) (C := RX5) (T := TX5) (N := 12) hx hb hts inX5 tyX5 tyX5_ok nmX5 hown hK hP hD hS 0 rfl rfl 9 (by decide) (hts _ q_146) (fun _ h9 => h9) rfl (by decide +kernel) rfl rfl (Nat.le_of_ble_eq_true rfl) dX5_clearThreats_7 (fun H locs hP hD hS => ?_)
  have hP : va_P D vwCl (wX5 C a0 a1 a2 a3 a4 a5 a6 a7 a8 a9 a10 a11 a12 a13 a14 a15 a16 (0 : Int32) o_textLength r_o_game_board o_game_made o_game_known o_game_stones0 o_game_stones1 o_game_list r_o_trial_board o_trial_made o_trial_known o_trial_stones0 o_trial_stones1 o_trial_list o_slots o_paths_layers o_table_count o_table_wins r_o_contest_board o_contest_from o_contest_to o_contest_spots o_contest_memo o_foundBridges o_threatPlayers o_threatRegions o_text) H := hP
  have hD : va_D A (wX5 C a0 a1 a2 a3 a4 a5 a6 a7 a8 a9 a10 a11 a12 a13 a14 a15 a16 (0 : Int32) o_textLength r_o_game_board o_game_made o_game_known o_game_stones0 o_game_stones1 o_game_list r_o_trial_board o_trial_made o_trial_known o_trial_stones0 o_trial_stones1 o_trial_list o_slots o_paths_layers o_table_count o_table_wins r_o_contest_board o_contest_from o_contest_to o_contest_spots o_contest_memo o_foundBridges o_threatPlayers o_threatRegions o_text) := hD
  refine lv_iload_n hx hb dX5_clearThreats_10 rfl (lv_at hl 0 rfl) ?_
  subst hf
  exact rWi hc rfl hP hD hS dX5_clearThreats_11
abbrev R_X5_isValidThreat : Room := { frames := 1, cells := 0, slots := 0, locals := 21 }
def m_X5_isValidThreat (o_threatCount : Int32) (o_threatPlayers : Nat → Int32) (o_threatRegions : Nat → Int64) (o_game_stones0 : Int64) (o_game_stones1 : Int64) (p1 : Int32) (p2 : Int32) : Option (Int32) := (if p1 < 0 then some (0 : Int32) else (if o_threatCount ≤ p1 then some (0 : Int32) else (if (6 : Int32) ≤ p1 then some (0 : Int32) else (if okI p1 6 = true then (if (o_threatPlayers p1.toNatClampNeg) = p2 then (if okI p1 6 = true then (if ((o_threatRegions p1.toNatClampNeg) &&& (m_X3_stonesOf o_game_stones0 o_game_stones1 ((1 : Int32) - p2))) = (0 : Int64) then some (1 : Int32) else some (0 : Int32)) else none) else some (0 : Int32)) else none))))
set_option maxHeartbeats 4000000 in
set_option maxRecDepth 100000 in
theorem c_X5_isValidThreat (l : Launch) (D : va_G) (C : Nat → ClassId) (z0 : Nat) (z1 : Nat) (z2 : Nat) (z3 : Nat) (r_o_trial : Nat) (r_o_slots : Nat) (r_o_paths : Nat) (r_o_table : Nat) (r_o_contest : Nat) (r_o_foundBridges : Nat) (o_threatCount : Int32) (r_o_text : Nat) (o_textLength : Int32) (o_threatPlayers : Nat → Int32) (o_threatRegions : Nat → Int64) (r_o_game_board : Nat) (o_game_made : Int32) (o_game_known : Int32) (r_o_game_list : Nat) (o_game_stones0 : Int64) (o_game_stones1 : Int64) (p1 : Int32) (p2 : Int32) (o : Int32) (hf : m_X5_isValidThreat o_threatCount o_threatPlayers o_threatRegions o_game_stones0 o_game_stones1 p1 p2 = some o) : Met l yX5_isValidThreat (wl yX5_isValidThreat cX5_isValidThreat 3 (some .boolean)) R_X5_isValidThreat (PR [.ref z0, .int p1, .int p2] D C [cX5 z0 z3 r_o_trial r_o_slots r_o_paths r_o_table r_o_contest r_o_foundBridges z1 z2 o_threatCount r_o_text o_textLength, aI C z1 6 o_threatPlayers, aJ C z2 6 o_threatRegions, cX3 z3 r_o_game_board o_game_made o_game_known r_o_game_list o_game_stones0 o_game_stones1]) (vp_Si (fun r => r = o)) 0 0 (fun _ => False) := by
  refine Met_ofC (by decide) ?_
  intro p e s m args below meth c hc hv
  obtain ⟨rfl, hP, hK⟩ := hv
  have hx := hc.1
  have hb := hc.2.1
  have hown := hc.2.2.2.2.1
  have hts := hc.2.2.2.2.2.1
  refine en_F rfl (fun ls hl => ?_)
  have hl : lv_has ls 3 [(0, .ref z0), (1, .int p1), (2, .int p2)] := hl
  refine lv_iload_n hx hb dX5_isValidThreat_0 rfl (lv_at hl 1 rfl) ?_
  refine lv_if_lt (tgt := 54) hx hb dX5_isValidThreat_1 (by decide) (fun c1 => ?_) (fun c1 => ?_)
  · have hf := if_t hf c1
    refine lv_iconst (v := (0 : Int32)) hx hb dX5_isValidThreat_54 (by decide) ?_
    exact rRz hc rfl (Option.some.inj hf) dX5_isValidThreat_55
  · have hf := if_f hf c1
    refine lv_iload_n hx hb dX5_isValidThreat_4 rfl (lv_at hl 1 rfl) ?_
    refine lv_aload_n hx hb dX5_isValidThreat_5 rfl (lv_at hl 0 rfl) ?_
    refine va_get (D := D) (ci := 5) (v := .int o_threatCount) (C := RX5) (T := TX5) (N := 12) hx hb hts inX5 hown hK hP 0 rfl rfl 9 (by decide) (hts _ q_146) (fun _ h9 => h9) rfl dX5_isValidThreat_6 ?_
    refine lv_icmp_ge (tgt := 54) hx hb dX5_isValidThreat_9 (by decide) (fun c2 => ?_) (fun c2 => ?_)
    · have hf := if_t hf c2
      refine lv_iconst (v := (0 : Int32)) hx hb dX5_isValidThreat_54 (by decide) ?_
      exact rRz hc rfl (Option.some.inj hf) dX5_isValidThreat_55
    · have hf := if_f hf c2
      refine lv_iload_n hx hb dX5_isValidThreat_12 rfl (lv_at hl 1 rfl) ?_
      refine lv_bipush (v := (6 : Int32)) hx hb dX5_isValidThreat_13 (by decide) ?_
      refine lv_icmp_ge (tgt := 54) hx hb dX5_isValidThreat_15 (by decide) (fun c3 => ?_) (fun c3 => ?_)
      · have hf := if_t hf c3
        refine lv_iconst (v := (0 : Int32)) hx hb dX5_isValidThreat_54 (by decide) ?_
        exact rRz hc rfl (Option.some.inj hf) dX5_isValidThreat_55
      · have hf := if_f hf c3
        refine lv_aload_n hx hb dX5_isValidThreat_18 rfl (lv_at hl 0 rfl) ?_
        refine va_get (D := D) (ci := 5) (v := .ref z1) (C := RX5) (T := TX5) (N := 12) hx hb hts inX5 hown hK hP 0 rfl rfl 7 (by decide) (hts _ q_144) (fun _ h9 => h9) rfl dX5_isValidThreat_19 ?_
        refine lv_iload_n hx hb dX5_isValidThreat_22 rfl (lv_at hl 1 rfl) ?_
        obtain ⟨h4, hf⟩ := ok_t hf
        refine va_iald hx hb hK hP 1 0 rfl rfl (okI_in h4) dX5_isValidThreat_23 ?_
        refine lv_iload_n hx hb dX5_isValidThreat_24 rfl (lv_at hl 2 rfl) ?_
        refine lv_icmp_ne (tgt := 54) hx hb dX5_isValidThreat_25 (by decide) (fun c5 => ?_) (fun c5 => ?_)
        · have hf := if_f hf c5
          refine lv_iconst (v := (0 : Int32)) hx hb dX5_isValidThreat_54 (by decide) ?_
          exact rRz hc rfl (Option.some.inj hf) dX5_isValidThreat_55
        · have hf := if_t hf c5
          refine lv_aload_n hx hb dX5_isValidThreat_28 rfl (lv_at hl 0 rfl) ?_
          refine va_get (D := D) (ci := 5) (v := .ref z2) (C := RX5) (T := TX5) (N := 12) hx hb hts inX5 hown hK hP 0 rfl rfl 8 (by decide) (hts _ q_145) (fun _ h9 => h9) rfl dX5_isValidThreat_29 ?_
          refine lv_iload_n hx hb dX5_isValidThreat_32 rfl (lv_at hl 1 rfl) ?_
          obtain ⟨h6, hf⟩ := ok_t hf
          refine va_lald hx hb hK hP 2 1 rfl rfl (okI_in h6) dX5_isValidThreat_33 ?_
          refine lv_aload_n hx hb dX5_isValidThreat_34 rfl (lv_at hl 0 rfl) ?_
          refine va_get (D := D) (ci := 5) (v := .ref z3) (C := RX5) (T := TX5) (N := 12) hx hb hts inX5 hown hK hP 0 rfl rfl 0 (by decide) (hts _ q_137) (fun _ h9 => h9) rfl dX5_isValidThreat_35 ?_
          refine lv_iconst (v := (1 : Int32)) hx hb dX5_isValidThreat_38 (by decide) ?_
          refine lv_iload_n hx hb dX5_isValidThreat_39 rfl (lv_at hl 2 rfl) ?_
          refine lv_isub hx hb dX5_isValidThreat_40 ?_
          refine rcVl (As := [.int ((1 : Int32) - p2)]) (rest := [.long (o_threatRegions p1.toNatClampNeg)]) hc k_X5_101 (c_X3_stonesOf l D C z3 r_o_game_board o_game_made o_game_known r_o_game_list o_game_stones0 o_game_stones1 ((1 : Int32) - p2)  _ rfl) ⟨rfl, rfl, Nat.le_of_ble_eq_true rfl, Nat.le_of_ble_eq_true rfl⟩ (hP.sub [3] rfl) hK (q0 := 0) rfl rfl rfl hl rfl rfl (Nat.le_of_ble_eq_true rfl) ⟨Nat.zero_le _, Nat.zero_le _⟩ dX5_isValidThreat_41 ?_
          refine lv_land hx hb dX5_isValidThreat_44 ?_
          refine lv_lconst (v := (0 : Int64)) hx hb dX5_isValidThreat_45 (by decide) ?_
          refine lc_ne (tgt := 54) hx hb dX5_isValidThreat_46 dX5_isValidThreat_47 (by decide) (fun c7 => ?_) (fun c7 => ?_)
          · have hf := if_f hf c7
            refine lv_iconst (v := (0 : Int32)) hx hb dX5_isValidThreat_54 (by decide) ?_
            exact rRz hc rfl (Option.some.inj hf) dX5_isValidThreat_55
          · have hf := if_t hf c7
            refine lv_iconst (v := (1 : Int32)) hx hb dX5_isValidThreat_50 (by decide) ?_
            refine lv_goto (tgt := 55) hx hb dX5_isValidThreat_51 (by decide) ?_
            exact rRz hc rfl (Option.some.inj hf) dX5_isValidThreat_55
abbrev R_X5_threats : Room := { frames := 2, cells := 0, slots := 0, locals := 43 }
def m_X5_threats_c32  (k14 : Int32 → Int32 → Option (Int32)) (v2 : Int32) (v3 : Int32) : Option (Int32) := (k14 v2 (v3 + (1 : Int32)))
set_option maxHeartbeats 4000000 in
set_option maxRecDepth 100000 in
theorem w_X5_threats_c32 {p : Program} {l : Launch} {e : Env} {s : State} {m : MethodId} {args : Array Value} {below : List Frame} {meth : Method} {c : Code} {D : va_G} {C : Nat → ClassId} {z0 : Nat} {z1 : Nat} {z2 : Nat} {z3 : Nat} {r_o_trial : Nat} {r_o_slots : Nat} {r_o_paths : Nat} {r_o_table : Nat} {r_o_contest : Nat} {r_o_foundBridges : Nat} {o_threatCount : Int32} {r_o_text : Nat} {o_textLength : Int32} {o_threatPlayers : Nat → Int32} {o_threatRegions : Nat → Int64} {r_o_game_board : Nat} {o_game_made : Int32} {o_game_known : Int32} {r_o_game_list : Nat} {o_game_stones0 : Int64} {o_game_stones1 : Int64} {p1 : Int32} {o : Int32} (hc : Cx p s m args meth c yX5_threats cX5_threats 4 (some .int)) (hK : va_K D vwCl (TY C) s) (hP : va_P D vwCl [cX5 z0 z3 r_o_trial r_o_slots r_o_paths r_o_table r_o_contest r_o_foundBridges z1 z2 o_threatCount r_o_text o_textLength, aI C z1 6 o_threatPlayers, aJ C z2 6 o_threatRegions, cX3 z3 r_o_game_board o_game_made o_game_known r_o_game_list o_game_stones0 o_game_stones1] s.heap) (k14 : Int32 → Int32 → Option (Int32)) (hk14 : ∀ (v2 : Int32) (v3 : Int32), k14 v2 v3 = some o → ∀ (ls : Array Slot), lv_has ls 4 [(0, .ref z0), (1, .int p1), (2, .int v2), (3, .int v3)] → W p l e R_X5_threats s m args below meth c s.heap [] 0 0 (MQ below (vp_Si (fun r => r = o)) args s 0 0 (fun _ => False)) (F0 m 14 ls [])) : ∀ (v2 : Int32) (v3 : Int32), m_X5_threats_c32  k14 v2 v3 = some o → ∀ (ls : Array Slot), lv_has ls 4 [(0, .ref z0), (1, .int p1), (2, .int v2), (3, .int v3)] → W p l e R_X5_threats s m args below meth c s.heap [] 0 0 (MQ below (vp_Si (fun r => r = o)) args s 0 0 (fun _ => False)) (F0 m 32 ls []) := by
  have hx := hc.1
  have hb := hc.2.1
  have hown := hc.2.2.2.2.1
  have hts := hc.2.2.2.2.2.1
  intro v2 v3 hf ls hl
  refine lv_iinc (v := (v3 + (1 : Int32))) (lv' := [(3, .int (v3 + (1 : Int32))), (0, .ref z0), (1, .int p1), (2, .int v2)]) hx hb dX5_threats_32 hl (k := 3) rfl rfl (by decide) rfl (fun ls hl => ?_)
  refine lv_goto (tgt := 14) hx hb dX5_threats_35 (by decide) ?_
  exact hk14 v2 (v3 + (1 : Int32)) hf ls (lv_sub hl [1, 2, 3, 0] rfl)
def m_X5_threats_c14 (o_threatCount : Int32) (o_threatPlayers : Nat → Int32) (o_threatRegions : Nat → Int64) (o_game_stones0 : Int64) (o_game_stones1 : Int64) (p1 : Int32)  : Nat → Int32 → Int32 → Option (Int32)
  | 0, _, _ => none
  | n + 1, v2, v3 => (if (6 : Int32) ≤ v3 then some v2 else ((m_X5_isValidThreat o_threatCount o_threatPlayers o_threatRegions o_game_stones0 o_game_stones1 v3 p1).bind fun u3 => (if u3 = 0 then (m_X5_threats_c32 (m_X5_threats_c14 o_threatCount o_threatPlayers o_threatRegions o_game_stones0 o_game_stones1 p1  n) v2 v3) else (m_X5_threats_c32 (m_X5_threats_c14 o_threatCount o_threatPlayers o_threatRegions o_game_stones0 o_game_stones1 p1  n) (v2 + (1 : Int32)) v3))))
set_option maxHeartbeats 4000000 in
set_option maxRecDepth 100000 in
theorem w_X5_threats_c14 {p : Program} {l : Launch} {e : Env} {s : State} {m : MethodId} {args : Array Value} {below : List Frame} {meth : Method} {c : Code} {D : va_G} {C : Nat → ClassId} {z0 : Nat} {z1 : Nat} {z2 : Nat} {z3 : Nat} {r_o_trial : Nat} {r_o_slots : Nat} {r_o_paths : Nat} {r_o_table : Nat} {r_o_contest : Nat} {r_o_foundBridges : Nat} {o_threatCount : Int32} {r_o_text : Nat} {o_textLength : Int32} {o_threatPlayers : Nat → Int32} {o_threatRegions : Nat → Int64} {r_o_game_board : Nat} {o_game_made : Int32} {o_game_known : Int32} {r_o_game_list : Nat} {o_game_stones0 : Int64} {o_game_stones1 : Int64} {p1 : Int32} {o : Int32} (hc : Cx p s m args meth c yX5_threats cX5_threats 4 (some .int)) (hK : va_K D vwCl (TY C) s) (hP : va_P D vwCl [cX5 z0 z3 r_o_trial r_o_slots r_o_paths r_o_table r_o_contest r_o_foundBridges z1 z2 o_threatCount r_o_text o_textLength, aI C z1 6 o_threatPlayers, aJ C z2 6 o_threatRegions, cX3 z3 r_o_game_board o_game_made o_game_known r_o_game_list o_game_stones0 o_game_stones1] s.heap) : ∀ (n : Nat), ∀ (v2 : Int32) (v3 : Int32), m_X5_threats_c14 o_threatCount o_threatPlayers o_threatRegions o_game_stones0 o_game_stones1 p1  n v2 v3 = some o → ∀ (ls : Array Slot), lv_has ls 4 [(0, .ref z0), (1, .int p1), (2, .int v2), (3, .int v3)] → W p l e R_X5_threats s m args below meth c s.heap [] 0 0 (MQ below (vp_Si (fun r => r = o)) args s 0 0 (fun _ => False)) (F0 m 14 ls []) := by
  have hx := hc.1
  have hb := hc.2.1
  have hown := hc.2.2.2.2.1
  have hts := hc.2.2.2.2.2.1
  intro n
  induction n with
  | zero =>
    intro v2 v3 hf
    exact no_some hf
  | succ n ih =>
    intro v2 v3 hf ls hl
    refine lv_iload_n hx hb dX5_threats_14 rfl (lv_at hl 3 rfl) ?_
    refine lv_bipush (v := (6 : Int32)) hx hb dX5_threats_15 (by decide) ?_
    refine lv_icmp_ge (tgt := 38) hx hb dX5_threats_17 (by decide) (fun c2 => ?_) (fun c2 => ?_)
    · have hf := if_t hf c2
      refine lv_iload_n hx hb dX5_threats_38 rfl (lv_at hl 2 rfl) ?_
      exact rRi hc (Option.some.inj hf) dX5_threats_39
    · have hf := if_f hf c2
      refine lv_aload_n hx hb dX5_threats_20 rfl (lv_at hl 0 rfl) ?_
      refine lv_iload_n hx hb dX5_threats_21 rfl (lv_at hl 3 rfl) ?_
      refine lv_iload_n hx hb dX5_threats_22 rfl (lv_at hl 1 rfl) ?_
      obtain ⟨u3, hu3, hf⟩ := bind_some hf
      refine rcVi (As := [.int v3, .int p1]) (rest := []) hc k_X5_227 (c_X5_isValidThreat l D C z0 z1 z2 z3 r_o_trial r_o_slots r_o_paths r_o_table r_o_contest r_o_foundBridges o_threatCount r_o_text o_textLength o_threatPlayers o_threatRegions r_o_game_board o_game_made o_game_known r_o_game_list o_game_stones0 o_game_stones1 v3 p1  _ hu3) ⟨rfl, rfl, Nat.le_of_ble_eq_true rfl, Nat.le_of_ble_eq_true rfl⟩ (hP.sub [0, 1, 2, 3] rfl) hK (q0 := 0) rfl rfl rfl hl rfl rfl (Nat.le_of_ble_eq_true rfl) ⟨Nat.zero_le _, Nat.zero_le _⟩ dX5_threats_23 ?_
      refine lv_if_eq (tgt := 32) hx hb dX5_threats_26 (by decide) (fun c4 => ?_) (fun c4 => ?_)
      · have hf := if_t hf c4
        exact w_X5_threats_c32 hc hK hP (m_X5_threats_c14 o_threatCount o_threatPlayers o_threatRegions o_game_stones0 o_game_stones1 p1  n) ih v2 v3 hf ls (lv_sub hl [0, 1, 2, 3] rfl)
      · have hf := if_f hf c4
        refine lv_iinc (v := (v2 + (1 : Int32))) (lv' := [(2, .int (v2 + (1 : Int32))), (0, .ref z0), (1, .int p1), (3, .int v3)]) hx hb dX5_threats_29 hl (k := 2) rfl rfl (by decide) rfl (fun ls hl => ?_)
        exact w_X5_threats_c32 hc hK hP (m_X5_threats_c14 o_threatCount o_threatPlayers o_threatRegions o_game_stones0 o_game_stones1 p1  n) ih (v2 + (1 : Int32)) v3 hf ls (lv_sub hl [1, 2, 0, 3] rfl)
def m_X5_threats (o_threatCount : Int32) (o_threatPlayers : Nat → Int32) (o_threatRegions : Nat → Int64) (o_game_stones0 : Int64) (o_game_stones1 : Int64) (p1 : Int32) : Option (Int32) := (if (m_X5_isPlayer p1) = 0 then some (-11 : Int32) else (m_X5_threats_c14 o_threatCount o_threatPlayers o_threatRegions o_game_stones0 o_game_stones1 p1 FU (0 : Int32) (0 : Int32)))
set_option maxHeartbeats 4000000 in
set_option maxRecDepth 100000 in
theorem c_X5_threats (l : Launch) (D : va_G) (C : Nat → ClassId) (z0 : Nat) (z1 : Nat) (z2 : Nat) (z3 : Nat) (r_o_trial : Nat) (r_o_slots : Nat) (r_o_paths : Nat) (r_o_table : Nat) (r_o_contest : Nat) (r_o_foundBridges : Nat) (o_threatCount : Int32) (r_o_text : Nat) (o_textLength : Int32) (o_threatPlayers : Nat → Int32) (o_threatRegions : Nat → Int64) (r_o_game_board : Nat) (o_game_made : Int32) (o_game_known : Int32) (r_o_game_list : Nat) (o_game_stones0 : Int64) (o_game_stones1 : Int64) (p1 : Int32) (o : Int32) (hf : m_X5_threats o_threatCount o_threatPlayers o_threatRegions o_game_stones0 o_game_stones1 p1 = some o) : Met l yX5_threats (wl yX5_threats cX5_threats 4 (some .int)) R_X5_threats (PR [.ref z0, .int p1] D C [cX5 z0 z3 r_o_trial r_o_slots r_o_paths r_o_table r_o_contest r_o_foundBridges z1 z2 o_threatCount r_o_text o_textLength, aI C z1 6 o_threatPlayers, aJ C z2 6 o_threatRegions, cX3 z3 r_o_game_board o_game_made o_game_known r_o_game_list o_game_stones0 o_game_stones1]) (vp_Si (fun r => r = o)) 0 0 (fun _ => False) := by
  refine Met_ofC (by decide) ?_
  intro p e s m args below meth c hc hv
  obtain ⟨rfl, hP, hK⟩ := hv
  have hx := hc.1
  have hb := hc.2.1
  have hown := hc.2.2.2.2.1
  have hts := hc.2.2.2.2.2.1
  refine en_F rfl (fun ls hl => ?_)
  have hl : lv_has ls 4 [(0, .ref z0), (1, .int p1)] := hl
  refine lv_iload_n hx hb dX5_threats_0 rfl (lv_at hl 1 rfl) ?_
  refine rcSi (As := [.int p1]) (rest := []) hc k_X5_125 (c_X5_isPlayer l D C p1  _ rfl) ⟨rfl, rfl, Nat.le_of_ble_eq_true rfl, Nat.le_of_ble_eq_true rfl⟩ (hP.sub [] rfl) hK hl rfl rfl (Nat.le_of_ble_eq_true rfl) ⟨Nat.zero_le _, Nat.zero_le _⟩ dX5_threats_1 ?_
  refine lv_if_ne (tgt := 10) hx hb dX5_threats_4 (by decide) (fun c1 => ?_) (fun c1 => ?_)
  · have hf := if_f hf c1
    refine lv_iconst (v := (0 : Int32)) hx hb dX5_threats_10 (by decide) ?_
    refine lv_istore_n (lv' := [(2, .int (0 : Int32)), (0, .ref z0), (1, .int p1)]) hx hb dX5_threats_11 rfl hl (by decide) rfl (fun ls hl => ?_)
    refine lv_iconst (v := (0 : Int32)) hx hb dX5_threats_12 (by decide) ?_
    refine lv_istore_n (lv' := [(3, .int (0 : Int32)), (2, .int (0 : Int32)), (0, .ref z0), (1, .int p1)]) hx hb dX5_threats_13 rfl hl (by decide) rfl (fun ls hl => ?_)
    exact w_X5_threats_c14 hc hK hP  FU (0 : Int32) (0 : Int32) hf ls (lv_sub hl [2, 3, 1, 0] rfl)
  · have hf := if_t hf c1
    refine lv_bipush (v := (-11 : Int32)) hx hb dX5_threats_7 (by decide) ?_
    exact rRi hc (Option.some.inj hf) dX5_threats_9
abbrev R_X5_needed : Room := { frames := 2, cells := 0, slots := 0, locals := 43 }
def m_X5_needed_c53  (k24 : Int32 → Int64 → Int32 → Option (Int64)) (v2 : Int32) (v3 : Int64) (v5 : Int32) : Option (Int64) := (k24 v2 v3 (v5 + (1 : Int32)))
set_option maxHeartbeats 4000000 in
set_option maxRecDepth 100000 in
theorem w_X5_needed_c53 {p : Program} {l : Launch} {e : Env} {s : State} {m : MethodId} {args : Array Value} {below : List Frame} {meth : Method} {c : Code} {D : va_G} {C : Nat → ClassId} {z0 : Nat} {z1 : Nat} {z2 : Nat} {z3 : Nat} {z4 : Nat} {r_o_trial : Nat} {r_o_slots : Nat} {r_o_paths : Nat} {r_o_table : Nat} {r_o_contest : Nat} {r_o_foundBridges : Nat} {o_threatCount : Int32} {r_o_text : Nat} {o_textLength : Int32} {o_game_made : Int32} {o_game_known : Int32} {r_o_game_list : Nat} {o_game_stones0 : Int64} {o_game_stones1 : Int64} {o_game_board_size : Int32} {o_game_board_cells : Int32} {o_game_board_all : Int64} {o_game_board_upper : Int64} {o_game_board_lower : Int64} {o_game_board_left : Int64} {o_game_board_right : Int64} {o_threatPlayers : Nat → Int32} {o_threatRegions : Nat → Int64} {p1 : Int32} {o : Int64} (hc : Cx p s m args meth c yX5_needed cX5_needed 6 (some .long)) (hK : va_K D vwCl (TY C) s) (hP : va_P D vwCl [cX5 z0 z1 r_o_trial r_o_slots r_o_paths r_o_table r_o_contest r_o_foundBridges z3 z4 o_threatCount r_o_text o_textLength, cX3 z1 z2 o_game_made o_game_known r_o_game_list o_game_stones0 o_game_stones1, cX0 z2 o_game_board_size o_game_board_cells o_game_board_all o_game_board_upper o_game_board_lower o_game_board_left o_game_board_right, aI C z3 6 o_threatPlayers, aJ C z4 6 o_threatRegions] s.heap) (k24 : Int32 → Int64 → Int32 → Option (Int64)) (hk24 : ∀ (v2 : Int32) (v3 : Int64) (v5 : Int32), k24 v2 v3 v5 = some o → ∀ (ls : Array Slot), lv_has ls 6 [(0, .ref z0), (1, .int p1), (2, .int v2), (3, .long v3), (5, .int v5)] → W p l e R_X5_needed s m args below meth c s.heap [] 0 0 (MQ below (vp_Sl (fun r => r = o)) args s 0 0 (fun _ => False)) (F0 m 24 ls [])) : ∀ (v2 : Int32) (v3 : Int64) (v5 : Int32), m_X5_needed_c53  k24 v2 v3 v5 = some o → ∀ (ls : Array Slot), lv_has ls 6 [(0, .ref z0), (1, .int p1), (2, .int v2), (3, .long v3), (5, .int v5)] → W p l e R_X5_needed s m args below meth c s.heap [] 0 0 (MQ below (vp_Sl (fun r => r = o)) args s 0 0 (fun _ => False)) (F0 m 53 ls []) := by
  have hx := hc.1
  have hb := hc.2.1
  have hown := hc.2.2.2.2.1
  have hts := hc.2.2.2.2.2.1
  intro v2 v3 v5 hf ls hl
  refine lv_iinc (v := (v5 + (1 : Int32))) (lv' := [(5, .int (v5 + (1 : Int32))), (0, .ref z0), (1, .int p1), (2, .int v2), (3, .long v3)]) hx hb dX5_needed_53 hl (k := 4) rfl rfl (by decide) rfl (fun ls hl => ?_)
  refine lv_goto (tgt := 24) hx hb dX5_needed_56 (by decide) ?_
  exact hk24 v2 v3 (v5 + (1 : Int32)) hf ls (lv_sub hl [1, 2, 3, 4, 0] rfl)
def m_X5_needed_c24 (o_threatCount : Int32) (o_game_stones0 : Int64) (o_game_stones1 : Int64) (o_threatPlayers : Nat → Int32) (o_threatRegions : Nat → Int64) (p1 : Int32)  : Nat → Int32 → Int64 → Int32 → Option (Int64)
  | 0, _, _, _ => none
  | n + 1, v2, v3, v5 => (if (6 : Int32) ≤ v5 then (if v2 = 0 then some (-15 : Int64) else some v3) else ((m_X5_isValidThreat o_threatCount o_threatPlayers o_threatRegions o_game_stones0 o_game_stones1 v5 p1).bind fun u4 => (if u4 = 0 then (m_X5_needed_c53 (m_X5_needed_c24 o_threatCount o_game_stones0 o_game_stones1 o_threatPlayers o_threatRegions p1  n) v2 v3 v5) else (if okI v5 6 = true then (m_X5_needed_c53 (m_X5_needed_c24 o_threatCount o_game_stones0 o_game_stones1 o_threatPlayers o_threatRegions p1  n) (1 : Int32) (v3 &&& (o_threatRegions v5.toNatClampNeg)) v5) else none))))
set_option maxHeartbeats 4000000 in
set_option maxRecDepth 100000 in
theorem w_X5_needed_c24 {p : Program} {l : Launch} {e : Env} {s : State} {m : MethodId} {args : Array Value} {below : List Frame} {meth : Method} {c : Code} {D : va_G} {C : Nat → ClassId} {z0 : Nat} {z1 : Nat} {z2 : Nat} {z3 : Nat} {z4 : Nat} {r_o_trial : Nat} {r_o_slots : Nat} {r_o_paths : Nat} {r_o_table : Nat} {r_o_contest : Nat} {r_o_foundBridges : Nat} {o_threatCount : Int32} {r_o_text : Nat} {o_textLength : Int32} {o_game_made : Int32} {o_game_known : Int32} {r_o_game_list : Nat} {o_game_stones0 : Int64} {o_game_stones1 : Int64} {o_game_board_size : Int32} {o_game_board_cells : Int32} {o_game_board_all : Int64} {o_game_board_upper : Int64} {o_game_board_lower : Int64} {o_game_board_left : Int64} {o_game_board_right : Int64} {o_threatPlayers : Nat → Int32} {o_threatRegions : Nat → Int64} {p1 : Int32} {o : Int64} (hc : Cx p s m args meth c yX5_needed cX5_needed 6 (some .long)) (hK : va_K D vwCl (TY C) s) (hP : va_P D vwCl [cX5 z0 z1 r_o_trial r_o_slots r_o_paths r_o_table r_o_contest r_o_foundBridges z3 z4 o_threatCount r_o_text o_textLength, cX3 z1 z2 o_game_made o_game_known r_o_game_list o_game_stones0 o_game_stones1, cX0 z2 o_game_board_size o_game_board_cells o_game_board_all o_game_board_upper o_game_board_lower o_game_board_left o_game_board_right, aI C z3 6 o_threatPlayers, aJ C z4 6 o_threatRegions] s.heap) : ∀ (n : Nat), ∀ (v2 : Int32) (v3 : Int64) (v5 : Int32), m_X5_needed_c24 o_threatCount o_game_stones0 o_game_stones1 o_threatPlayers o_threatRegions p1  n v2 v3 v5 = some o → ∀ (ls : Array Slot), lv_has ls 6 [(0, .ref z0), (1, .int p1), (2, .int v2), (3, .long v3), (5, .int v5)] → W p l e R_X5_needed s m args below meth c s.heap [] 0 0 (MQ below (vp_Sl (fun r => r = o)) args s 0 0 (fun _ => False)) (F0 m 24 ls []) := by
  have hx := hc.1
  have hb := hc.2.1
  have hown := hc.2.2.2.2.1
  have hts := hc.2.2.2.2.2.1
  intro n
  induction n with
  | zero =>
    intro v2 v3 v5 hf
    exact no_some hf
  | succ n ih =>
    intro v2 v3 v5 hf ls hl
    refine lv_iload hx hb dX5_needed_24 (lv_at hl 4 rfl) ?_
    refine lv_bipush (v := (6 : Int32)) hx hb dX5_needed_26 (by decide) ?_
    refine lv_icmp_ge (tgt := 59) hx hb dX5_needed_28 (by decide) (fun c2 => ?_) (fun c2 => ?_)
    · have hf := if_t hf c2
      refine lv_iload_n hx hb dX5_needed_59 rfl (lv_at hl 2 rfl) ?_
      refine lv_if_eq (tgt := 67) hx hb dX5_needed_60 (by decide) (fun c3 => ?_) (fun c3 => ?_)
      · have hf := if_t hf c3
        refine lv_ldc2 (v := (-15 : Int64)) hx hb hown (hts _ q_557) dX5_needed_67 ?_
        exact rRl hc (Option.some.inj hf) dX5_needed_70
      · have hf := if_f hf c3
        refine lv_lload_n hx hb dX5_needed_63 rfl (lv_at hl 3 rfl) ?_
        refine lv_goto (tgt := 70) hx hb dX5_needed_64 (by decide) ?_
        exact rRl hc (Option.some.inj hf) dX5_needed_70
    · have hf := if_f hf c2
      refine lv_aload_n hx hb dX5_needed_31 rfl (lv_at hl 0 rfl) ?_
      refine lv_iload hx hb dX5_needed_32 (lv_at hl 4 rfl) ?_
      refine lv_iload_n hx hb dX5_needed_34 rfl (lv_at hl 1 rfl) ?_
      obtain ⟨u4, hu4, hf⟩ := bind_some hf
      refine rcVi (As := [.int v5, .int p1]) (rest := []) hc k_X5_227 (c_X5_isValidThreat l D C z0 z3 z4 z1 r_o_trial r_o_slots r_o_paths r_o_table r_o_contest r_o_foundBridges o_threatCount r_o_text o_textLength o_threatPlayers o_threatRegions z2 o_game_made o_game_known r_o_game_list o_game_stones0 o_game_stones1 v5 p1  _ hu4) ⟨rfl, rfl, Nat.le_of_ble_eq_true rfl, Nat.le_of_ble_eq_true rfl⟩ (hP.sub [0, 3, 4, 1] rfl) hK (q0 := 0) rfl rfl rfl hl rfl rfl (Nat.le_of_ble_eq_true rfl) ⟨Nat.zero_le _, Nat.zero_le _⟩ dX5_needed_35 ?_
      refine lv_if_eq (tgt := 53) hx hb dX5_needed_38 (by decide) (fun c5 => ?_) (fun c5 => ?_)
      · have hf := if_t hf c5
        exact w_X5_needed_c53 hc hK hP (m_X5_needed_c24 o_threatCount o_game_stones0 o_game_stones1 o_threatPlayers o_threatRegions p1  n) ih v2 v3 v5 hf ls (lv_sub hl [0, 1, 2, 3, 4] rfl)
      · have hf := if_f hf c5
        refine lv_iconst (v := (1 : Int32)) hx hb dX5_needed_41 (by decide) ?_
        refine lv_istore_n (lv' := [(2, .int (1 : Int32)), (0, .ref z0), (1, .int p1), (3, .long v3), (5, .int v5)]) hx hb dX5_needed_42 rfl hl (by decide) rfl (fun ls hl => ?_)
        refine lv_lload_n hx hb dX5_needed_43 rfl (lv_at hl 3 rfl) ?_
        refine lv_aload_n hx hb dX5_needed_44 rfl (lv_at hl 1 rfl) ?_
        refine va_get (D := D) (ci := 5) (v := .ref z4) (C := RX5) (T := TX5) (N := 12) hx hb hts inX5 hown hK hP 0 rfl rfl 8 (by decide) (hts _ q_145) (fun _ h9 => h9) rfl dX5_needed_45 ?_
        refine lv_iload hx hb dX5_needed_48 (lv_at hl 4 rfl) ?_
        obtain ⟨h6, hf⟩ := ok_t hf
        refine va_lald hx hb hK hP 4 1 rfl rfl (okI_in h6) dX5_needed_50 ?_
        refine lv_land hx hb dX5_needed_51 ?_
        refine lv_lstore_n (lv' := [(3, .long (v3 &&& (o_threatRegions v5.toNatClampNeg))), (2, .int (1 : Int32)), (0, .ref z0), (1, .int p1), (5, .int v5)]) hx hb dX5_needed_52 rfl hl (by decide) rfl (fun ls hl => ?_)
        exact w_X5_needed_c53 hc hK hP (m_X5_needed_c24 o_threatCount o_game_stones0 o_game_stones1 o_threatPlayers o_threatRegions p1  n) ih (1 : Int32) (v3 &&& (o_threatRegions v5.toNatClampNeg)) v5 hf ls (lv_sub hl [2, 3, 1, 0, 4] rfl)
def m_X5_needed (o_threatCount : Int32) (o_game_stones0 : Int64) (o_game_stones1 : Int64) (o_game_board_all : Int64) (o_threatPlayers : Nat → Int32) (o_threatRegions : Nat → Int64) (p1 : Int32) : Option (Int64) := (if (m_X5_isPlayer p1) = 0 then some (-11 : Int64) else (m_X5_needed_c24 o_threatCount o_game_stones0 o_game_stones1 o_threatPlayers o_threatRegions p1 FU (0 : Int32) (m_X3_free o_game_stones0 o_game_stones1 o_game_board_all) (0 : Int32)))
set_option maxHeartbeats 4000000 in
set_option maxRecDepth 100000 in
theorem c_X5_needed (l : Launch) (D : va_G) (C : Nat → ClassId) (z0 : Nat) (z1 : Nat) (z2 : Nat) (z3 : Nat) (z4 : Nat) (r_o_trial : Nat) (r_o_slots : Nat) (r_o_paths : Nat) (r_o_table : Nat) (r_o_contest : Nat) (r_o_foundBridges : Nat) (o_threatCount : Int32) (r_o_text : Nat) (o_textLength : Int32) (o_game_made : Int32) (o_game_known : Int32) (r_o_game_list : Nat) (o_game_stones0 : Int64) (o_game_stones1 : Int64) (o_game_board_size : Int32) (o_game_board_cells : Int32) (o_game_board_all : Int64) (o_game_board_upper : Int64) (o_game_board_lower : Int64) (o_game_board_left : Int64) (o_game_board_right : Int64) (o_threatPlayers : Nat → Int32) (o_threatRegions : Nat → Int64) (p1 : Int32) (o : Int64) (hf : m_X5_needed o_threatCount o_game_stones0 o_game_stones1 o_game_board_all o_threatPlayers o_threatRegions p1 = some o) : Met l yX5_needed (wl yX5_needed cX5_needed 6 (some .long)) R_X5_needed (PR [.ref z0, .int p1] D C [cX5 z0 z1 r_o_trial r_o_slots r_o_paths r_o_table r_o_contest r_o_foundBridges z3 z4 o_threatCount r_o_text o_textLength, cX3 z1 z2 o_game_made o_game_known r_o_game_list o_game_stones0 o_game_stones1, cX0 z2 o_game_board_size o_game_board_cells o_game_board_all o_game_board_upper o_game_board_lower o_game_board_left o_game_board_right, aI C z3 6 o_threatPlayers, aJ C z4 6 o_threatRegions]) (vp_Sl (fun r => r = o)) 0 0 (fun _ => False) := by
  refine Met_ofC (by decide) ?_
  intro p e s m args below meth c hc hv
  obtain ⟨rfl, hP, hK⟩ := hv
  have hx := hc.1
  have hb := hc.2.1
  have hown := hc.2.2.2.2.1
  have hts := hc.2.2.2.2.2.1
  refine en_F rfl (fun ls hl => ?_)
  have hl : lv_has ls 6 [(0, .ref z0), (1, .int p1)] := hl
  refine lv_iload_n hx hb dX5_needed_0 rfl (lv_at hl 1 rfl) ?_
  refine rcSi (As := [.int p1]) (rest := []) hc k_X5_125 (c_X5_isPlayer l D C p1  _ rfl) ⟨rfl, rfl, Nat.le_of_ble_eq_true rfl, Nat.le_of_ble_eq_true rfl⟩ (hP.sub [] rfl) hK hl rfl rfl (Nat.le_of_ble_eq_true rfl) ⟨Nat.zero_le _, Nat.zero_le _⟩ dX5_needed_1 ?_
  refine lv_if_ne (tgt := 11) hx hb dX5_needed_4 (by decide) (fun c1 => ?_) (fun c1 => ?_)
  · have hf := if_f hf c1
    refine lv_iconst (v := (0 : Int32)) hx hb dX5_needed_11 (by decide) ?_
    refine lv_istore_n (lv' := [(2, .int (0 : Int32)), (0, .ref z0), (1, .int p1)]) hx hb dX5_needed_12 rfl hl (by decide) rfl (fun ls hl => ?_)
    refine lv_aload_n hx hb dX5_needed_13 rfl (lv_at hl 1 rfl) ?_
    refine va_get (D := D) (ci := 5) (v := .ref z1) (C := RX5) (T := TX5) (N := 12) hx hb hts inX5 hown hK hP 0 rfl rfl 0 (by decide) (hts _ q_137) (fun _ h9 => h9) rfl dX5_needed_14 ?_
    refine rcVl (As := []) (rest := []) hc k_X5_151 (c_X3_free l D C z1 z2 o_game_made o_game_known r_o_game_list o_game_stones0 o_game_stones1 o_game_board_size o_game_board_cells o_game_board_all o_game_board_upper o_game_board_lower o_game_board_left o_game_board_right  _ rfl) ⟨rfl, rfl, Nat.le_of_ble_eq_true rfl, Nat.le_of_ble_eq_true rfl⟩ (hP.sub [1, 2] rfl) hK (q0 := 0) rfl rfl rfl hl rfl rfl (Nat.le_of_ble_eq_true rfl) ⟨Nat.zero_le _, Nat.zero_le _⟩ dX5_needed_17 ?_
    refine lv_lstore_n (lv' := [(3, .long (m_X3_free o_game_stones0 o_game_stones1 o_game_board_all)), (2, .int (0 : Int32)), (0, .ref z0), (1, .int p1)]) hx hb dX5_needed_20 rfl hl (by decide) rfl (fun ls hl => ?_)
    refine lv_iconst (v := (0 : Int32)) hx hb dX5_needed_21 (by decide) ?_
    refine lv_istore (lv' := [(5, .int (0 : Int32)), (3, .long (m_X3_free o_game_stones0 o_game_stones1 o_game_board_all)), (2, .int (0 : Int32)), (0, .ref z0), (1, .int p1)]) hx hb dX5_needed_22 hl (by decide) rfl (fun ls hl => ?_)
    exact w_X5_needed_c24 hc hK hP  FU (0 : Int32) (m_X3_free o_game_stones0 o_game_stones1 o_game_board_all) (0 : Int32) hf ls (lv_sub hl [3, 4, 2, 1, 0] rfl)
  · have hf := if_t hf c1
    refine lv_ldc2 (v := (-11 : Int64)) hx hb hown (hts _ q_302) dX5_needed_7 ?_
    exact rRl hc (Option.some.inj hf) dX5_needed_10
abbrev R_X5_cellWithNumber : Room := { frames := 0, cells := 0, slots := 0, locals := 0 }
def m_X5_cellWithNumber_c5 (p1 : Int32)  : Nat → Int64 → Int32 → Option (Int64)
  | 0, _, _ => none
  | n + 1, v3, v5 => (if p1 ≤ v5 then some (v3 &&& (-v3)) else (m_X5_cellWithNumber_c5 p1  n (v3 &&& (v3 - (1 : Int64))) (v5 + (1 : Int32))))
set_option maxHeartbeats 4000000 in
set_option maxRecDepth 100000 in
theorem w_X5_cellWithNumber_c5 {p : Program} {l : Launch} {e : Env} {s : State} {m : MethodId} {args : Array Value} {below : List Frame} {meth : Method} {c : Code} {D : va_G} {C : Nat → ClassId} {p1 : Int32} {o : Int64} (hc : Cx p s m args meth c yX5_cellWithNumber cX5_cellWithNumber 6 (some .long)) (hK : va_K D vwCl (TY C) s) (hP : va_P D vwCl ([] : va_W) s.heap) : ∀ (n : Nat), ∀ (v3 : Int64) (v5 : Int32), m_X5_cellWithNumber_c5 p1  n v3 v5 = some o → ∀ (ls : Array Slot), lv_has ls 6 [(2, .int p1), (3, .long v3), (5, .int v5)] → W p l e R_X5_cellWithNumber s m args below meth c s.heap [] 0 0 (MQ below (vp_Sl (fun r => r = o)) args s 0 0 (fun _ => False)) (F0 m 5 ls []) := by
  have hx := hc.1
  have hb := hc.2.1
  have hown := hc.2.2.2.2.1
  have hts := hc.2.2.2.2.2.1
  intro n
  induction n with
  | zero =>
    intro v3 v5 hf
    exact no_some hf
  | succ n ih =>
    intro v3 v5 hf ls hl
    refine lv_iload hx hb dX5_cellWithNumber_5 (lv_at hl 2 rfl) ?_
    refine lv_iload_n hx hb dX5_cellWithNumber_7 rfl (lv_at hl 0 rfl) ?_
    refine lv_icmp_ge (tgt := 23) hx hb dX5_cellWithNumber_8 (by decide) (fun c1 => ?_) (fun c1 => ?_)
    · have hf := if_t hf c1
      refine lv_lload_n hx hb dX5_cellWithNumber_23 rfl (lv_at hl 1 rfl) ?_
      refine lv_lload_n hx hb dX5_cellWithNumber_24 rfl (lv_at hl 1 rfl) ?_
      refine lv_lneg hx hb dX5_cellWithNumber_25 ?_
      refine lv_land hx hb dX5_cellWithNumber_26 ?_
      exact rRl hc (Option.some.inj hf) dX5_cellWithNumber_27
    · have hf := if_f hf c1
      refine lv_lload_n hx hb dX5_cellWithNumber_11 rfl (lv_at hl 1 rfl) ?_
      refine lv_lload_n hx hb dX5_cellWithNumber_12 rfl (lv_at hl 1 rfl) ?_
      refine lv_lconst (v := (1 : Int64)) hx hb dX5_cellWithNumber_13 (by decide) ?_
      refine lv_lsub hx hb dX5_cellWithNumber_14 ?_
      refine lv_land hx hb dX5_cellWithNumber_15 ?_
      refine lv_lstore_n (lv' := [(3, .long (v3 &&& (v3 - (1 : Int64)))), (2, .int p1), (5, .int v5)]) hx hb dX5_cellWithNumber_16 rfl hl (by decide) rfl (fun ls hl => ?_)
      refine lv_iinc (v := (v5 + (1 : Int32))) (lv' := [(5, .int (v5 + (1 : Int32))), (3, .long (v3 &&& (v3 - (1 : Int64)))), (2, .int p1)]) hx hb dX5_cellWithNumber_17 hl (k := 2) rfl rfl (by decide) rfl (fun ls hl => ?_)
      refine lv_goto (tgt := 5) hx hb dX5_cellWithNumber_20 (by decide) ?_
      exact ih (v3 &&& (v3 - (1 : Int64))) (v5 + (1 : Int32)) hf ls (lv_sub hl [2, 1, 0] rfl)
def m_X5_cellWithNumber (p0 : Int64) (p1 : Int32) : Option (Int64) := (m_X5_cellWithNumber_c5 p1 FU p0 (0 : Int32))
set_option maxHeartbeats 4000000 in
set_option maxRecDepth 100000 in
theorem c_X5_cellWithNumber (l : Launch) (D : va_G) (C : Nat → ClassId) (p0 : Int64) (p1 : Int32) (o : Int64) (hf : m_X5_cellWithNumber p0 p1 = some o) : Met l yX5_cellWithNumber (wl yX5_cellWithNumber cX5_cellWithNumber 6 (some .long)) R_X5_cellWithNumber (PR [.long p0, .int p1] D C ([] : va_W)) (vp_Sl (fun r => r = o)) 0 0 (fun _ => False) := by
  refine Met_ofC (by decide) ?_
  intro p e s m args below meth c hc hv
  obtain ⟨rfl, hP, hK⟩ := hv
  have hx := hc.1
  have hb := hc.2.1
  have hown := hc.2.2.2.2.1
  have hts := hc.2.2.2.2.2.1
  refine en_F rfl (fun ls hl => ?_)
  have hl : lv_has ls 6 [(0, .long p0), (2, .int p1)] := hl
  refine lv_lload_n hx hb dX5_cellWithNumber_0 rfl (lv_at hl 0 rfl) ?_
  refine lv_lstore_n (lv' := [(3, .long p0), (0, .long p0), (2, .int p1)]) hx hb dX5_cellWithNumber_1 rfl hl (by decide) rfl (fun ls hl => ?_)
  refine lv_iconst (v := (0 : Int32)) hx hb dX5_cellWithNumber_2 (by decide) ?_
  refine lv_istore (lv' := [(5, .int (0 : Int32)), (3, .long p0), (0, .long p0), (2, .int p1)]) hx hb dX5_cellWithNumber_3 hl (by decide) rfl (fun ls hl => ?_)
  exact w_X5_cellWithNumber_c5 hc hK hP  FU p0 (0 : Int32) hf ls (lv_sub hl [3, 1, 0] rfl)
abbrev R_X5_randomGames : Room := { frames := 3, cells := 0, slots := 0, locals := 83 }
def m_X5_randomGames_c171  (k36 : Int64 → Int32 → Int32 → Option (Int32)) (v4 : Int64) (v6 : Int32) (v7 : Int32) : Option (Int32) := (k36 v4 v6 (v7 + (1 : Int32)))
set_option maxHeartbeats 4000000 in
set_option maxRecDepth 100000 in
theorem w_X5_randomGames_c171 {p : Program} {l : Launch} {e : Env} {s : State} {m : MethodId} {args : Array Value} {below : List Frame} {meth : Method} {c : Code} {D : va_G} {C : Nat → ClassId} {z0 : Nat} {z1 : Nat} {z2 : Nat} {r_o_trial : Nat} {r_o_slots : Nat} {r_o_paths : Nat} {r_o_table : Nat} {r_o_contest : Nat} {r_o_foundBridges : Nat} {r_o_threatPlayers : Nat} {r_o_threatRegions : Nat} {o_threatCount : Int32} {r_o_text : Nat} {o_textLength : Int32} {o_game_made : Int32} {o_game_known : Int32} {r_o_game_list : Nat} {o_game_stones0 : Int64} {o_game_stones1 : Int64} {o_game_board_size : Int32} {o_game_board_cells : Int32} {o_game_board_all : Int64} {o_game_board_upper : Int64} {o_game_board_lower : Int64} {o_game_board_left : Int64} {o_game_board_right : Int64} {p2 : Int32} {o : Int32} (hc : Cx p s m args meth c yX5_randomGames cX5_randomGames 16 (some .int)) (hK : va_K D vwCl (TY C) s) (hP : va_P D vwCl [cX5 z0 z1 r_o_trial r_o_slots r_o_paths r_o_table r_o_contest r_o_foundBridges r_o_threatPlayers r_o_threatRegions o_threatCount r_o_text o_textLength, cX3 z1 z2 o_game_made o_game_known r_o_game_list o_game_stones0 o_game_stones1, cX0 z2 o_game_board_size o_game_board_cells o_game_board_all o_game_board_upper o_game_board_lower o_game_board_left o_game_board_right] s.heap) (k36 : Int64 → Int32 → Int32 → Option (Int32)) (hk36 : ∀ (v4 : Int64) (v6 : Int32) (v7 : Int32), k36 v4 v6 v7 = some o → ∀ (ls : Array Slot), lv_has ls 16 [(0, .ref z0), (2, .int p2), (3, .ref z2), (4, .long v4), (6, .int v6), (7, .int v7)] → W p l e R_X5_randomGames s m args below meth c s.heap [] 0 0 (MQ below (vp_Si (fun r => r = o)) args s 0 0 (fun _ => False)) (F0 m 36 ls [])) : ∀ (v4 : Int64) (v6 : Int32) (v7 : Int32), m_X5_randomGames_c171  k36 v4 v6 v7 = some o → ∀ (ls : Array Slot), lv_has ls 16 [(0, .ref z0), (2, .int p2), (3, .ref z2), (4, .long v4), (6, .int v6), (7, .int v7)] → W p l e R_X5_randomGames s m args below meth c s.heap [] 0 0 (MQ below (vp_Si (fun r => r = o)) args s 0 0 (fun _ => False)) (F0 m 171 ls []) := by
  have hx := hc.1
  have hb := hc.2.1
  have hown := hc.2.2.2.2.1
  have hts := hc.2.2.2.2.2.1
  intro v4 v6 v7 hf ls hl
  refine lv_iinc (v := (v7 + (1 : Int32))) (lv' := [(7, .int (v7 + (1 : Int32))), (0, .ref z0), (2, .int p2), (3, .ref z2), (4, .long v4), (6, .int v6)]) hx hb dX5_randomGames_171 hl (k := 5) rfl rfl (by decide) rfl (fun ls hl => ?_)
  refine lv_goto (tgt := 36) hx hb dX5_randomGames_174 (by decide) ?_
  exact hk36 v4 v6 (v7 + (1 : Int32)) hf ls (lv_sub hl [1, 2, 3, 4, 5, 0] rfl)
def m_X5_randomGames_c139  (k77 : Int64 → Int32 → Int32 → Int64 → Int64 → Int32 → Int32 → Option (Int32)) (v4 : Int64) (v6 : Int32) (v7 : Int32) (v8 : Int64) (v10 : Int64) (v12 : Int32) (v13 : Int32) : Option (Int32) := (k77 v4 v6 v7 v8 v10 ((1 : Int32) - v12) (v13 + (-1 : Int32)))
set_option maxHeartbeats 4000000 in
set_option maxRecDepth 100000 in
theorem w_X5_randomGames_c139 {p : Program} {l : Launch} {e : Env} {s : State} {m : MethodId} {args : Array Value} {below : List Frame} {meth : Method} {c : Code} {D : va_G} {C : Nat → ClassId} {z0 : Nat} {z1 : Nat} {z2 : Nat} {r_o_trial : Nat} {r_o_slots : Nat} {r_o_paths : Nat} {r_o_table : Nat} {r_o_contest : Nat} {r_o_foundBridges : Nat} {r_o_threatPlayers : Nat} {r_o_threatRegions : Nat} {o_threatCount : Int32} {r_o_text : Nat} {o_textLength : Int32} {o_game_made : Int32} {o_game_known : Int32} {r_o_game_list : Nat} {o_game_stones0 : Int64} {o_game_stones1 : Int64} {o_game_board_size : Int32} {o_game_board_cells : Int32} {o_game_board_all : Int64} {o_game_board_upper : Int64} {o_game_board_lower : Int64} {o_game_board_left : Int64} {o_game_board_right : Int64} {p2 : Int32} {o : Int32} (hc : Cx p s m args meth c yX5_randomGames cX5_randomGames 16 (some .int)) (hK : va_K D vwCl (TY C) s) (hP : va_P D vwCl [cX5 z0 z1 r_o_trial r_o_slots r_o_paths r_o_table r_o_contest r_o_foundBridges r_o_threatPlayers r_o_threatRegions o_threatCount r_o_text o_textLength, cX3 z1 z2 o_game_made o_game_known r_o_game_list o_game_stones0 o_game_stones1, cX0 z2 o_game_board_size o_game_board_cells o_game_board_all o_game_board_upper o_game_board_lower o_game_board_left o_game_board_right] s.heap) (k77 : Int64 → Int32 → Int32 → Int64 → Int64 → Int32 → Int32 → Option (Int32)) (hk77 : ∀ (v4 : Int64) (v6 : Int32) (v7 : Int32) (v8 : Int64) (v10 : Int64) (v12 : Int32) (v13 : Int32), k77 v4 v6 v7 v8 v10 v12 v13 = some o → ∀ (ls : Array Slot), lv_has ls 16 [(0, .ref z0), (2, .int p2), (3, .ref z2), (4, .long v4), (6, .int v6), (7, .int v7), (8, .long v8), (10, .long v10), (12, .int v12), (13, .int v13)] → W p l e R_X5_randomGames s m args below meth c s.heap [] 0 0 (MQ below (vp_Si (fun r => r = o)) args s 0 0 (fun _ => False)) (F0 m 77 ls [])) : ∀ (v4 : Int64) (v6 : Int32) (v7 : Int32) (v8 : Int64) (v10 : Int64) (v12 : Int32) (v13 : Int32), m_X5_randomGames_c139  k77 v4 v6 v7 v8 v10 v12 v13 = some o → ∀ (ls : Array Slot), lv_has ls 16 [(0, .ref z0), (2, .int p2), (3, .ref z2), (4, .long v4), (6, .int v6), (7, .int v7), (8, .long v8), (10, .long v10), (12, .int v12), (13, .int v13)] → W p l e R_X5_randomGames s m args below meth c s.heap [] 0 0 (MQ below (vp_Si (fun r => r = o)) args s 0 0 (fun _ => False)) (F0 m 139 ls []) := by
  have hx := hc.1
  have hb := hc.2.1
  have hown := hc.2.2.2.2.1
  have hts := hc.2.2.2.2.2.1
  intro v4 v6 v7 v8 v10 v12 v13 hf ls hl
  refine lv_iconst (v := (1 : Int32)) hx hb dX5_randomGames_139 (by decide) ?_
  refine lv_iload hx hb dX5_randomGames_140 (lv_at hl 8 rfl) ?_
  refine lv_isub hx hb dX5_randomGames_142 ?_
  refine lv_istore (lv' := [(12, .int ((1 : Int32) - v12)), (0, .ref z0), (2, .int p2), (3, .ref z2), (4, .long v4), (6, .int v6), (7, .int v7), (8, .long v8), (10, .long v10), (13, .int v13)]) hx hb dX5_randomGames_143 hl (by decide) rfl (fun ls hl => ?_)
  refine lv_iinc (v := (v13 + (-1 : Int32))) (lv' := [(13, .int (v13 + (-1 : Int32))), (12, .int ((1 : Int32) - v12)), (0, .ref z0), (2, .int p2), (3, .ref z2), (4, .long v4), (6, .int v6), (7, .int v7), (8, .long v8), (10, .long v10)]) hx hb dX5_randomGames_145 hl (k := 9) rfl rfl (by decide) rfl (fun ls hl => ?_)
  refine lv_goto (tgt := 77) hx hb dX5_randomGames_148 (by decide) ?_
  exact hk77 v4 v6 v7 v8 v10 ((1 : Int32) - v12) (v13 + (-1 : Int32)) hf ls (lv_sub hl [2, 3, 4, 5, 6, 7, 8, 9, 1, 0] rfl)
def m_X5_randomGames_c77 (o_game_board_size : Int32) (o_game_board_cells : Int32) (o_game_board_all : Int64) (o_game_board_upper : Int64) (o_game_board_lower : Int64) (o_game_board_left : Int64) (o_game_board_right : Int64) (k36 : Int64 → Int32 → Int32 → Option (Int32)) : Nat → Int64 → Int32 → Int32 → Int64 → Int64 → Int32 → Int32 → Option (Int32)
  | 0, _, _, _, _, _, _, _ => none
  | n + 1, v4, v6, v7, v8, v10, v12, v13 => (if v13 ≤ 0 then ((m_X0_linked o_game_board_size o_game_board_cells o_game_board_all o_game_board_left o_game_board_right v8 o_game_board_upper o_game_board_lower).bind fun u6 => (if u6 = 0 then (m_X5_randomGames_c171 k36 v4 v6 v7) else (m_X5_randomGames_c171 k36 v4 (v6 + (1 : Int32)) v7))) else (if v13.toInt64 = 0 then none else ((m_X5_cellWithNumber v10 ((jlrem ((jlrem ((v4 * (1103515245 : Int64)) + (12345 : Int64)) (2147483648 : Int64)) / (65536 : Int64)) v13.toInt64).toInt32)).bind fun u9 => (if v12 = 0 then (m_X5_randomGames_c139 (m_X5_randomGames_c77 o_game_board_size o_game_board_cells o_game_board_all o_game_board_upper o_game_board_lower o_game_board_left o_game_board_right k36 n) (jlrem ((v4 * (1103515245 : Int64)) + (12345 : Int64)) (2147483648 : Int64)) v6 v7 (v8 ||| u9) (v10 &&& (u9 ^^^ (-1 : Int64))) v12 v13) else (m_X5_randomGames_c139 (m_X5_randomGames_c77 o_game_board_size o_game_board_cells o_game_board_all o_game_board_upper o_game_board_lower o_game_board_left o_game_board_right k36 n) (jlrem ((v4 * (1103515245 : Int64)) + (12345 : Int64)) (2147483648 : Int64)) v6 v7 v8 (v10 &&& (u9 ^^^ (-1 : Int64))) v12 v13)))))
set_option maxHeartbeats 4000000 in
set_option maxRecDepth 100000 in
theorem w_X5_randomGames_c77 {p : Program} {l : Launch} {e : Env} {s : State} {m : MethodId} {args : Array Value} {below : List Frame} {meth : Method} {c : Code} {D : va_G} {C : Nat → ClassId} {z0 : Nat} {z1 : Nat} {z2 : Nat} {r_o_trial : Nat} {r_o_slots : Nat} {r_o_paths : Nat} {r_o_table : Nat} {r_o_contest : Nat} {r_o_foundBridges : Nat} {r_o_threatPlayers : Nat} {r_o_threatRegions : Nat} {o_threatCount : Int32} {r_o_text : Nat} {o_textLength : Int32} {o_game_made : Int32} {o_game_known : Int32} {r_o_game_list : Nat} {o_game_stones0 : Int64} {o_game_stones1 : Int64} {o_game_board_size : Int32} {o_game_board_cells : Int32} {o_game_board_all : Int64} {o_game_board_upper : Int64} {o_game_board_lower : Int64} {o_game_board_left : Int64} {o_game_board_right : Int64} {p2 : Int32} {o : Int32} (hc : Cx p s m args meth c yX5_randomGames cX5_randomGames 16 (some .int)) (hK : va_K D vwCl (TY C) s) (hP : va_P D vwCl [cX5 z0 z1 r_o_trial r_o_slots r_o_paths r_o_table r_o_contest r_o_foundBridges r_o_threatPlayers r_o_threatRegions o_threatCount r_o_text o_textLength, cX3 z1 z2 o_game_made o_game_known r_o_game_list o_game_stones0 o_game_stones1, cX0 z2 o_game_board_size o_game_board_cells o_game_board_all o_game_board_upper o_game_board_lower o_game_board_left o_game_board_right] s.heap) (k36 : Int64 → Int32 → Int32 → Option (Int32)) (hk36 : ∀ (v4 : Int64) (v6 : Int32) (v7 : Int32), k36 v4 v6 v7 = some o → ∀ (ls : Array Slot), lv_has ls 16 [(0, .ref z0), (2, .int p2), (3, .ref z2), (4, .long v4), (6, .int v6), (7, .int v7)] → W p l e R_X5_randomGames s m args below meth c s.heap [] 0 0 (MQ below (vp_Si (fun r => r = o)) args s 0 0 (fun _ => False)) (F0 m 36 ls [])) : ∀ (n : Nat), ∀ (v4 : Int64) (v6 : Int32) (v7 : Int32) (v8 : Int64) (v10 : Int64) (v12 : Int32) (v13 : Int32), m_X5_randomGames_c77 o_game_board_size o_game_board_cells o_game_board_all o_game_board_upper o_game_board_lower o_game_board_left o_game_board_right k36 n v4 v6 v7 v8 v10 v12 v13 = some o → ∀ (ls : Array Slot), lv_has ls 16 [(0, .ref z0), (2, .int p2), (3, .ref z2), (4, .long v4), (6, .int v6), (7, .int v7), (8, .long v8), (10, .long v10), (12, .int v12), (13, .int v13)] → W p l e R_X5_randomGames s m args below meth c s.heap [] 0 0 (MQ below (vp_Si (fun r => r = o)) args s 0 0 (fun _ => False)) (F0 m 77 ls []) := by
  have hx := hc.1
  have hb := hc.2.1
  have hown := hc.2.2.2.2.1
  have hts := hc.2.2.2.2.2.1
  intro n
  induction n with
  | zero =>
    intro v4 v6 v7 v8 v10 v12 v13 hf
    exact no_some hf
  | succ n ih =>
    intro v4 v6 v7 v8 v10 v12 v13 hf ls hl
    refine lv_iload hx hb dX5_randomGames_77 (lv_at hl 9 rfl) ?_
    refine lv_if_le (tgt := 151) hx hb dX5_randomGames_79 (by decide) (fun c5 => ?_) (fun c5 => ?_)
    · have hf := if_t hf c5
      refine lv_aload_n hx hb dX5_randomGames_151 rfl (lv_at hl 2 rfl) ?_
      refine lv_lload hx hb dX5_randomGames_152 (lv_at hl 6 rfl) ?_
      refine lv_aload_n hx hb dX5_randomGames_154 rfl (lv_at hl 2 rfl) ?_
      refine va_get (D := D) (ci := 0) (v := .long o_game_board_upper) (C := RX0) (T := TX0) (N := 7) hx hb hts inX0 hown hK hP 2 rfl rfl 3 (by decide) (hts _ q_60) (fun _ h9 => h9) rfl dX5_randomGames_155 ?_
      refine lv_aload_n hx hb dX5_randomGames_158 rfl (lv_at hl 2 rfl) ?_
      refine va_get (D := D) (ci := 0) (v := .long o_game_board_lower) (C := RX0) (T := TX0) (N := 7) hx hb hts inX0 hown hK hP 2 rfl rfl 4 (by decide) (hts _ q_64) (fun _ h9 => h9) rfl dX5_randomGames_159 ?_
      obtain ⟨u6, hu6, hf⟩ := bind_some hf
      refine rcVi (As := [.long v8, .long o_game_board_upper, .long o_game_board_lower]) (rest := []) hc k_X5_245 (c_X0_linked l D C z2 o_game_board_size o_game_board_cells o_game_board_all o_game_board_upper o_game_board_lower o_game_board_left o_game_board_right v8 o_game_board_upper o_game_board_lower  _ hu6) ⟨rfl, rfl, Nat.le_of_ble_eq_true rfl, Nat.le_of_ble_eq_true rfl⟩ (hP.sub [2] rfl) hK (q0 := 0) rfl rfl rfl hl rfl rfl (Nat.le_of_ble_eq_true rfl) ⟨Nat.zero_le _, Nat.zero_le _⟩ dX5_randomGames_162 ?_
      refine lv_if_eq (tgt := 171) hx hb dX5_randomGames_165 (by decide) (fun c7 => ?_) (fun c7 => ?_)
      · have hf := if_t hf c7
        exact w_X5_randomGames_c171 hc hK hP k36 hk36 v4 v6 v7 hf ls (lv_sub hl [0, 1, 2, 3, 4, 5] rfl)
      · have hf := if_f hf c7
        refine lv_iinc (v := (v6 + (1 : Int32))) (lv' := [(6, .int (v6 + (1 : Int32))), (0, .ref z0), (2, .int p2), (3, .ref z2), (4, .long v4), (7, .int v7), (8, .long v8), (10, .long v10), (12, .int v12), (13, .int v13)]) hx hb dX5_randomGames_168 hl (k := 4) rfl rfl (by decide) rfl (fun ls hl => ?_)
        exact w_X5_randomGames_c171 hc hK hP k36 hk36 v4 (v6 + (1 : Int32)) v7 hf ls (lv_sub hl [1, 2, 3, 4, 0, 5] rfl)
    · have hf := if_f hf c5
      refine lv_lload hx hb dX5_randomGames_82 (lv_at hl 3 rfl) ?_
      refine lv_ldc2 (v := (1103515245 : Int64)) hx hb hown (hts _ q_562) dX5_randomGames_84 ?_
      refine lv_lmul hx hb dX5_randomGames_87 ?_
      refine lv_ldc2 (v := (12345 : Int64)) hx hb hown (hts _ q_563) dX5_randomGames_88 ?_
      refine lv_ladd hx hb dX5_randomGames_91 ?_
      refine lv_ldc2 (v := (2147483648 : Int64)) hx hb hown (hts _ q_564) dX5_randomGames_92 ?_
      refine lv_lrem hx hb dX5_randomGames_95 (by decide) ?_
      refine lv_lstore (lv' := [(4, .long (jlrem ((v4 * (1103515245 : Int64)) + (12345 : Int64)) (2147483648 : Int64))), (0, .ref z0), (2, .int p2), (3, .ref z2), (6, .int v6), (7, .int v7), (8, .long v8), (10, .long v10), (12, .int v12), (13, .int v13)]) hx hb dX5_randomGames_96 hl (by decide) rfl (fun ls hl => ?_)
      refine lv_lload hx hb dX5_randomGames_98 (lv_at hl 7 rfl) ?_
      refine lv_lload hx hb dX5_randomGames_100 (lv_at hl 0 rfl) ?_
      refine lv_ldc2 (v := (65536 : Int64)) hx hb hown (hts _ q_565) dX5_randomGames_102 ?_
      refine lv_ldiv hx hb dX5_randomGames_105 (by decide) ?_
      refine lv_iload hx hb dX5_randomGames_106 (lv_at hl 9 rfl) ?_
      refine lv_i2l (v := v13.toInt64) hx hb dX5_randomGames_108 rfl ?_
      obtain ⟨h8, hf⟩ := nz_t hf
      refine lv_lrem hx hb dX5_randomGames_109 h8 ?_
      refine lv_l2i (v := (jlrem ((jlrem ((v4 * (1103515245 : Int64)) + (12345 : Int64)) (2147483648 : Int64)) / (65536 : Int64)) v13.toInt64).toInt32) hx hb dX5_randomGames_110 rfl ?_
      obtain ⟨u9, hu9, hf⟩ := bind_some hf
      refine rcSl (As := [.long v10, .int ((jlrem ((jlrem ((v4 * (1103515245 : Int64)) + (12345 : Int64)) (2147483648 : Int64)) / (65536 : Int64)) v13.toInt64).toInt32)]) (rest := []) hc k_X5_241 (c_X5_cellWithNumber l D C v10 ((jlrem ((jlrem ((v4 * (1103515245 : Int64)) + (12345 : Int64)) (2147483648 : Int64)) / (65536 : Int64)) v13.toInt64).toInt32)  _ hu9) ⟨rfl, rfl, Nat.le_of_ble_eq_true rfl, Nat.le_of_ble_eq_true rfl⟩ (hP.sub [] rfl) hK hl rfl rfl (Nat.le_of_ble_eq_true rfl) ⟨Nat.zero_le _, Nat.zero_le _⟩ dX5_randomGames_111 ?_
      refine lv_lstore (lv' := [(14, .long u9), (4, .long (jlrem ((v4 * (1103515245 : Int64)) + (12345 : Int64)) (2147483648 : Int64))), (0, .ref z0), (2, .int p2), (3, .ref z2), (6, .int v6), (7, .int v7), (8, .long v8), (10, .long v10), (12, .int v12), (13, .int v13)]) hx hb dX5_randomGames_114 hl (by decide) rfl (fun ls hl => ?_)
      refine lv_lload hx hb dX5_randomGames_116 (lv_at hl 8 rfl) ?_
      refine lv_lload hx hb dX5_randomGames_118 (lv_at hl 0 rfl) ?_
      refine lv_ldc2 (v := (-1 : Int64)) hx hb hown (hts _ q_316) dX5_randomGames_120 ?_
      refine lv_lxor hx hb dX5_randomGames_123 ?_
      refine lv_land hx hb dX5_randomGames_124 ?_
      refine lv_lstore (lv' := [(10, .long (v10 &&& (u9 ^^^ (-1 : Int64)))), (14, .long u9), (4, .long (jlrem ((v4 * (1103515245 : Int64)) + (12345 : Int64)) (2147483648 : Int64))), (0, .ref z0), (2, .int p2), (3, .ref z2), (6, .int v6), (7, .int v7), (8, .long v8), (12, .int v12), (13, .int v13)]) hx hb dX5_randomGames_125 hl (by decide) rfl (fun ls hl => ?_)
      refine lv_iload hx hb dX5_randomGames_127 (lv_at hl 9 rfl) ?_
      refine lv_if_ne (tgt := 139) hx hb dX5_randomGames_129 (by decide) (fun c10 => ?_) (fun c10 => ?_)
      · have hf := if_f hf c10
        exact w_X5_randomGames_c139 hc hK hP (m_X5_randomGames_c77 o_game_board_size o_game_board_cells o_game_board_all o_game_board_upper o_game_board_lower o_game_board_left o_game_board_right k36 n) ih (jlrem ((v4 * (1103515245 : Int64)) + (12345 : Int64)) (2147483648 : Int64)) v6 v7 v8 (v10 &&& (u9 ^^^ (-1 : Int64))) v12 v13 hf ls (lv_sub hl [3, 4, 5, 2, 6, 7, 8, 0, 9, 10] rfl)
      · have hf := if_t hf c10
        refine lv_lload hx hb dX5_randomGames_132 (lv_at hl 8 rfl) ?_
        refine lv_lload hx hb dX5_randomGames_134 (lv_at hl 1 rfl) ?_
        refine lv_lor hx hb dX5_randomGames_136 ?_
        refine lv_lstore (lv' := [(8, .long (v8 ||| u9)), (10, .long (v10 &&& (u9 ^^^ (-1 : Int64)))), (14, .long u9), (4, .long (jlrem ((v4 * (1103515245 : Int64)) + (12345 : Int64)) (2147483648 : Int64))), (0, .ref z0), (2, .int p2), (3, .ref z2), (6, .int v6), (7, .int v7), (12, .int v12), (13, .int v13)]) hx hb dX5_randomGames_137 hl (by decide) rfl (fun ls hl => ?_)
        exact w_X5_randomGames_c139 hc hK hP (m_X5_randomGames_c77 o_game_board_size o_game_board_cells o_game_board_all o_game_board_upper o_game_board_lower o_game_board_left o_game_board_right k36 n) ih (jlrem ((v4 * (1103515245 : Int64)) + (12345 : Int64)) (2147483648 : Int64)) v6 v7 (v8 ||| u9) (v10 &&& (u9 ^^^ (-1 : Int64))) v12 v13 hf ls (lv_sub hl [4, 5, 6, 3, 7, 8, 0, 1, 9, 10] rfl)
def m_X5_randomGames_c36 (o_game_made : Int32) (o_game_stones0 : Int64) (o_game_stones1 : Int64) (o_game_board_size : Int32) (o_game_board_cells : Int32) (o_game_board_all : Int64) (o_game_board_upper : Int64) (o_game_board_lower : Int64) (o_game_board_left : Int64) (o_game_board_right : Int64) (p2 : Int32)  : Nat → Int64 → Int32 → Int32 → Option (Int32)
  | 0, _, _, _ => none
  | n + 1, v4, v6, v7 => (if p2 ≤ v7 then some v6 else (m_X5_randomGames_c77 o_game_board_size o_game_board_cells o_game_board_all o_game_board_upper o_game_board_lower o_game_board_left o_game_board_right (m_X5_randomGames_c36 o_game_made o_game_stones0 o_game_stones1 o_game_board_size o_game_board_cells o_game_board_all o_game_board_upper o_game_board_lower o_game_board_left o_game_board_right p2  n) FU v4 v6 v7 (m_X3_stonesOf o_game_stones0 o_game_stones1 (0 : Int32)) (m_X3_free o_game_stones0 o_game_stones1 o_game_board_all) (m_X3_mover o_game_made) (m_J13_bitCount_95d88 (m_X3_free o_game_stones0 o_game_stones1 o_game_board_all))))
set_option maxHeartbeats 4000000 in
set_option maxRecDepth 100000 in
theorem w_X5_randomGames_c36 {p : Program} {l : Launch} {e : Env} {s : State} {m : MethodId} {args : Array Value} {below : List Frame} {meth : Method} {c : Code} {D : va_G} {C : Nat → ClassId} {z0 : Nat} {z1 : Nat} {z2 : Nat} {r_o_trial : Nat} {r_o_slots : Nat} {r_o_paths : Nat} {r_o_table : Nat} {r_o_contest : Nat} {r_o_foundBridges : Nat} {r_o_threatPlayers : Nat} {r_o_threatRegions : Nat} {o_threatCount : Int32} {r_o_text : Nat} {o_textLength : Int32} {o_game_made : Int32} {o_game_known : Int32} {r_o_game_list : Nat} {o_game_stones0 : Int64} {o_game_stones1 : Int64} {o_game_board_size : Int32} {o_game_board_cells : Int32} {o_game_board_all : Int64} {o_game_board_upper : Int64} {o_game_board_lower : Int64} {o_game_board_left : Int64} {o_game_board_right : Int64} {p2 : Int32} {o : Int32} (hc : Cx p s m args meth c yX5_randomGames cX5_randomGames 16 (some .int)) (hK : va_K D vwCl (TY C) s) (hP : va_P D vwCl [cX5 z0 z1 r_o_trial r_o_slots r_o_paths r_o_table r_o_contest r_o_foundBridges r_o_threatPlayers r_o_threatRegions o_threatCount r_o_text o_textLength, cX3 z1 z2 o_game_made o_game_known r_o_game_list o_game_stones0 o_game_stones1, cX0 z2 o_game_board_size o_game_board_cells o_game_board_all o_game_board_upper o_game_board_lower o_game_board_left o_game_board_right] s.heap) : ∀ (n : Nat), ∀ (v4 : Int64) (v6 : Int32) (v7 : Int32), m_X5_randomGames_c36 o_game_made o_game_stones0 o_game_stones1 o_game_board_size o_game_board_cells o_game_board_all o_game_board_upper o_game_board_lower o_game_board_left o_game_board_right p2  n v4 v6 v7 = some o → ∀ (ls : Array Slot), lv_has ls 16 [(0, .ref z0), (2, .int p2), (3, .ref z2), (4, .long v4), (6, .int v6), (7, .int v7)] → W p l e R_X5_randomGames s m args below meth c s.heap [] 0 0 (MQ below (vp_Si (fun r => r = o)) args s 0 0 (fun _ => False)) (F0 m 36 ls []) := by
  have hx := hc.1
  have hb := hc.2.1
  have hown := hc.2.2.2.2.1
  have hts := hc.2.2.2.2.2.1
  intro n
  induction n with
  | zero =>
    intro v4 v6 v7 hf
    exact no_some hf
  | succ n ih =>
    intro v4 v6 v7 hf ls hl
    refine lv_iload hx hb dX5_randomGames_36 (lv_at hl 5 rfl) ?_
    refine lv_iload_n hx hb dX5_randomGames_38 rfl (lv_at hl 1 rfl) ?_
    refine lv_icmp_ge (tgt := 177) hx hb dX5_randomGames_39 (by decide) (fun c4 => ?_) (fun c4 => ?_)
    · have hf := if_t hf c4
      refine lv_iload hx hb dX5_randomGames_177 (lv_at hl 4 rfl) ?_
      exact rRi hc (Option.some.inj hf) dX5_randomGames_179
    · have hf := if_f hf c4
      refine lv_aload_n hx hb dX5_randomGames_42 rfl (lv_at hl 0 rfl) ?_
      refine va_get (D := D) (ci := 5) (v := .ref z1) (C := RX5) (T := TX5) (N := 12) hx hb hts inX5 hown hK hP 0 rfl rfl 0 (by decide) (hts _ q_137) (fun _ h9 => h9) rfl dX5_randomGames_43 ?_
      refine lv_iconst (v := (0 : Int32)) hx hb dX5_randomGames_46 (by decide) ?_
      refine rcVl (As := [.int (0 : Int32)]) (rest := []) hc k_X5_101 (c_X3_stonesOf l D C z1 z2 o_game_made o_game_known r_o_game_list o_game_stones0 o_game_stones1 (0 : Int32)  _ rfl) ⟨rfl, rfl, Nat.le_of_ble_eq_true rfl, Nat.le_of_ble_eq_true rfl⟩ (hP.sub [1] rfl) hK (q0 := 0) rfl rfl rfl hl rfl rfl (Nat.le_of_ble_eq_true rfl) ⟨Nat.zero_le _, Nat.zero_le _⟩ dX5_randomGames_47 ?_
      refine lv_lstore (lv' := [(8, .long (m_X3_stonesOf o_game_stones0 o_game_stones1 (0 : Int32))), (0, .ref z0), (2, .int p2), (3, .ref z2), (4, .long v4), (6, .int v6), (7, .int v7)]) hx hb dX5_randomGames_50 hl (by decide) rfl (fun ls hl => ?_)
      refine lv_aload_n hx hb dX5_randomGames_52 rfl (lv_at hl 1 rfl) ?_
      refine va_get (D := D) (ci := 5) (v := .ref z1) (C := RX5) (T := TX5) (N := 12) hx hb hts inX5 hown hK hP 0 rfl rfl 0 (by decide) (hts _ q_137) (fun _ h9 => h9) rfl dX5_randomGames_53 ?_
      refine rcVl (As := []) (rest := []) hc k_X5_151 (c_X3_free l D C z1 z2 o_game_made o_game_known r_o_game_list o_game_stones0 o_game_stones1 o_game_board_size o_game_board_cells o_game_board_all o_game_board_upper o_game_board_lower o_game_board_left o_game_board_right  _ rfl) ⟨rfl, rfl, Nat.le_of_ble_eq_true rfl, Nat.le_of_ble_eq_true rfl⟩ (hP.sub [1, 2] rfl) hK (q0 := 0) rfl rfl rfl hl rfl rfl (Nat.le_of_ble_eq_true rfl) ⟨Nat.zero_le _, Nat.zero_le _⟩ dX5_randomGames_56 ?_
      refine lv_lstore (lv' := [(10, .long (m_X3_free o_game_stones0 o_game_stones1 o_game_board_all)), (8, .long (m_X3_stonesOf o_game_stones0 o_game_stones1 (0 : Int32))), (0, .ref z0), (2, .int p2), (3, .ref z2), (4, .long v4), (6, .int v6), (7, .int v7)]) hx hb dX5_randomGames_59 hl (by decide) rfl (fun ls hl => ?_)
      refine lv_aload_n hx hb dX5_randomGames_61 rfl (lv_at hl 2 rfl) ?_
      refine va_get (D := D) (ci := 5) (v := .ref z1) (C := RX5) (T := TX5) (N := 12) hx hb hts inX5 hown hK hP 0 rfl rfl 0 (by decide) (hts _ q_137) (fun _ h9 => h9) rfl dX5_randomGames_62 ?_
      refine rcVi (As := []) (rest := []) hc k_X5_122 (c_X3_mover l D C z1 z2 o_game_made o_game_known r_o_game_list o_game_stones0 o_game_stones1  _ rfl) ⟨rfl, rfl, Nat.le_of_ble_eq_true rfl, Nat.le_of_ble_eq_true rfl⟩ (hP.sub [1] rfl) hK (q0 := 0) rfl rfl rfl hl rfl rfl (Nat.le_of_ble_eq_true rfl) ⟨Nat.zero_le _, Nat.zero_le _⟩ dX5_randomGames_65 ?_
      refine lv_istore (lv' := [(12, .int (m_X3_mover o_game_made)), (10, .long (m_X3_free o_game_stones0 o_game_stones1 o_game_board_all)), (8, .long (m_X3_stonesOf o_game_stones0 o_game_stones1 (0 : Int32))), (0, .ref z0), (2, .int p2), (3, .ref z2), (4, .long v4), (6, .int v6), (7, .int v7)]) hx hb dX5_randomGames_68 hl (by decide) rfl (fun ls hl => ?_)
      refine lv_lload hx hb dX5_randomGames_70 (lv_at hl 1 rfl) ?_
      refine rcSi (As := [.long (m_X3_free o_game_stones0 o_game_stones1 o_game_board_all)]) (rest := []) hc k_X5_177 (c_J13_bitCount_95d88 l D C (m_X3_free o_game_stones0 o_game_stones1 o_game_board_all)  _ rfl) ⟨rfl, rfl, Nat.le_of_ble_eq_true rfl, Nat.le_of_ble_eq_true rfl⟩ (hP.sub [] rfl) hK hl rfl rfl (Nat.le_of_ble_eq_true rfl) ⟨Nat.zero_le _, Nat.zero_le _⟩ dX5_randomGames_72 ?_
      refine lv_istore (lv' := [(13, .int (m_J13_bitCount_95d88 (m_X3_free o_game_stones0 o_game_stones1 o_game_board_all))), (12, .int (m_X3_mover o_game_made)), (10, .long (m_X3_free o_game_stones0 o_game_stones1 o_game_board_all)), (8, .long (m_X3_stonesOf o_game_stones0 o_game_stones1 (0 : Int32))), (0, .ref z0), (2, .int p2), (3, .ref z2), (4, .long v4), (6, .int v6), (7, .int v7)]) hx hb dX5_randomGames_75 hl (by decide) rfl (fun ls hl => ?_)
      exact w_X5_randomGames_c77 hc hK hP (m_X5_randomGames_c36 o_game_made o_game_stones0 o_game_stones1 o_game_board_size o_game_board_cells o_game_board_all o_game_board_upper o_game_board_lower o_game_board_left o_game_board_right p2  n) ih FU v4 v6 v7 (m_X3_stonesOf o_game_stones0 o_game_stones1 (0 : Int32)) (m_X3_free o_game_stones0 o_game_stones1 o_game_board_all) (m_X3_mover o_game_made) (m_J13_bitCount_95d88 (m_X3_free o_game_stones0 o_game_stones1 o_game_board_all)) hf ls (lv_sub hl [4, 5, 6, 7, 8, 9, 3, 2, 1, 0] rfl)
def m_X5_randomGames (o_game_made : Int32) (o_game_stones0 : Int64) (o_game_stones1 : Int64) (o_game_board_size : Int32) (o_game_board_cells : Int32) (o_game_board_all : Int64) (o_game_board_upper : Int64) (o_game_board_lower : Int64) (o_game_board_left : Int64) (o_game_board_right : Int64) (p1 : Int32) (p2 : Int32) : Option (Int32) := (if p1 < 0 then some (-12 : Int32) else (if p2 < (1 : Int32) then some (-12 : Int32) else (if p2 ≤ (50 : Int32) then (m_X5_randomGames_c36 o_game_made o_game_stones0 o_game_stones1 o_game_board_size o_game_board_cells o_game_board_all o_game_board_upper o_game_board_lower o_game_board_left o_game_board_right p2 FU p1.toInt64 (0 : Int32) (0 : Int32)) else some (-12 : Int32))))
set_option maxHeartbeats 4000000 in
set_option maxRecDepth 100000 in
theorem c_X5_randomGames (l : Launch) (D : va_G) (C : Nat → ClassId) (z0 : Nat) (z1 : Nat) (z2 : Nat) (r_o_trial : Nat) (r_o_slots : Nat) (r_o_paths : Nat) (r_o_table : Nat) (r_o_contest : Nat) (r_o_foundBridges : Nat) (r_o_threatPlayers : Nat) (r_o_threatRegions : Nat) (o_threatCount : Int32) (r_o_text : Nat) (o_textLength : Int32) (o_game_made : Int32) (o_game_known : Int32) (r_o_game_list : Nat) (o_game_stones0 : Int64) (o_game_stones1 : Int64) (o_game_board_size : Int32) (o_game_board_cells : Int32) (o_game_board_all : Int64) (o_game_board_upper : Int64) (o_game_board_lower : Int64) (o_game_board_left : Int64) (o_game_board_right : Int64) (p1 : Int32) (p2 : Int32) (o : Int32) (hf : m_X5_randomGames o_game_made o_game_stones0 o_game_stones1 o_game_board_size o_game_board_cells o_game_board_all o_game_board_upper o_game_board_lower o_game_board_left o_game_board_right p1 p2 = some o) : Met l yX5_randomGames (wl yX5_randomGames cX5_randomGames 16 (some .int)) R_X5_randomGames (PR [.ref z0, .int p1, .int p2] D C [cX5 z0 z1 r_o_trial r_o_slots r_o_paths r_o_table r_o_contest r_o_foundBridges r_o_threatPlayers r_o_threatRegions o_threatCount r_o_text o_textLength, cX3 z1 z2 o_game_made o_game_known r_o_game_list o_game_stones0 o_game_stones1, cX0 z2 o_game_board_size o_game_board_cells o_game_board_all o_game_board_upper o_game_board_lower o_game_board_left o_game_board_right]) (vp_Si (fun r => r = o)) 0 0 (fun _ => False) := by
  refine Met_ofC (by decide) ?_
  intro p e s m args below meth c hc hv
  obtain ⟨rfl, hP, hK⟩ := hv
  have hx := hc.1
  have hb := hc.2.1
  have hown := hc.2.2.2.2.1
  have hts := hc.2.2.2.2.2.1
  refine en_F rfl (fun ls hl => ?_)
  have hl : lv_has ls 16 [(0, .ref z0), (1, .int p1), (2, .int p2)] := hl
  refine lv_iload_n hx hb dX5_randomGames_0 rfl (lv_at hl 1 rfl) ?_
  refine lv_if_lt (tgt := 15) hx hb dX5_randomGames_1 (by decide) (fun c1 => ?_) (fun c1 => ?_)
  · have hf := if_t hf c1
    refine lv_bipush (v := (-12 : Int32)) hx hb dX5_randomGames_15 (by decide) ?_
    exact rRi hc (Option.some.inj hf) dX5_randomGames_17
  · have hf := if_f hf c1
    refine lv_iload_n hx hb dX5_randomGames_4 rfl (lv_at hl 2 rfl) ?_
    refine lv_iconst (v := (1 : Int32)) hx hb dX5_randomGames_5 (by decide) ?_
    refine lv_icmp_lt (tgt := 15) hx hb dX5_randomGames_6 (by decide) (fun c2 => ?_) (fun c2 => ?_)
    · have hf := if_t hf c2
      refine lv_bipush (v := (-12 : Int32)) hx hb dX5_randomGames_15 (by decide) ?_
      exact rRi hc (Option.some.inj hf) dX5_randomGames_17
    · have hf := if_f hf c2
      refine lv_iload_n hx hb dX5_randomGames_9 rfl (lv_at hl 2 rfl) ?_
      refine lv_bipush (v := (50 : Int32)) hx hb dX5_randomGames_10 (by decide) ?_
      refine lv_icmp_le (tgt := 18) hx hb dX5_randomGames_12 (by decide) (fun c3 => ?_) (fun c3 => ?_)
      · have hf := if_t hf c3
        refine lv_aload_n hx hb dX5_randomGames_18 rfl (lv_at hl 0 rfl) ?_
        refine va_get (D := D) (ci := 5) (v := .ref z1) (C := RX5) (T := TX5) (N := 12) hx hb hts inX5 hown hK hP 0 rfl rfl 0 (by decide) (hts _ q_137) (fun _ h9 => h9) rfl dX5_randomGames_19 ?_
        refine va_get (D := D) (ci := 3) (v := .ref z2) (C := RX3) (T := TX3) (N := 6) hx hb hts inX3 hown hK hP 1 rfl rfl 0 (by decide) (hts _ q_94) (fun _ h9 => h9) rfl dX5_randomGames_22 ?_
        refine lv_astore_n (lv' := [(3, .ref z2), (0, .ref z0), (1, .int p1), (2, .int p2)]) hx hb dX5_randomGames_25 rfl hl (by decide) rfl (fun ls hl => ?_)
        refine lv_iload_n hx hb dX5_randomGames_26 rfl (lv_at hl 2 rfl) ?_
        refine lv_i2l (v := p1.toInt64) hx hb dX5_randomGames_27 rfl ?_
        refine lv_lstore (lv' := [(4, .long p1.toInt64), (3, .ref z2), (0, .ref z0), (1, .int p1), (2, .int p2)]) hx hb dX5_randomGames_28 hl (by decide) rfl (fun ls hl => ?_)
        refine lv_iconst (v := (0 : Int32)) hx hb dX5_randomGames_30 (by decide) ?_
        refine lv_istore (lv' := [(6, .int (0 : Int32)), (4, .long p1.toInt64), (3, .ref z2), (0, .ref z0), (1, .int p1), (2, .int p2)]) hx hb dX5_randomGames_31 hl (by decide) rfl (fun ls hl => ?_)
        refine lv_iconst (v := (0 : Int32)) hx hb dX5_randomGames_33 (by decide) ?_
        refine lv_istore (lv' := [(7, .int (0 : Int32)), (6, .int (0 : Int32)), (4, .long p1.toInt64), (3, .ref z2), (0, .ref z0), (1, .int p1), (2, .int p2)]) hx hb dX5_randomGames_34 hl (by decide) rfl (fun ls hl => ?_)
        exact w_X5_randomGames_c36 hc hK hP  FU p1.toInt64 (0 : Int32) (0 : Int32) hf ls (lv_sub hl [4, 6, 3, 2, 1, 0] rfl)
      · have hf := if_f hf c3
        refine lv_bipush (v := (-12 : Int32)) hx hb dX5_randomGames_15 (by decide) ?_
        exact rRi hc (Option.some.inj hf) dX5_randomGames_17
abbrev R_X5_append : Room := { frames := 0, cells := 0, slots := 0, locals := 0 }
def m_X5_append (o_textLength : Int32) (o_text : Nat → Int32) (p1 : Int32) : Option (Int32 × Int32 × (Nat → Int32)) := (if p1 < 0 then some ((-12 : Int32), o_textLength, o_text) else (if p1 ≤ (127 : Int32) then (if o_textLength < (100 : Int32) then (if okI o_textLength 100 = true then some ((o_textLength + (1 : Int32)), (o_textLength + (1 : Int32)), (upd o_text o_textLength.toNatClampNeg (vp_nar .byte p1.toInt8.toInt32))) else none) else some ((-14 : Int32), o_textLength, o_text)) else some ((-12 : Int32), o_textLength, o_text)))
set_option maxHeartbeats 4000000 in
set_option maxRecDepth 100000 in
theorem c_X5_append (l : Launch) (D : va_G) (C : Nat → ClassId) (sz : Nat) (a0 : Nat) (a1 : Nat) (a2 : Nat) (a3 : Nat) (a4 : Nat) (a5 : Nat) (a6 : Nat) (a7 : Nat) (a8 : Nat) (a9 : Nat) (a10 : Nat) (a11 : Nat) (a12 : Nat) (a13 : Nat) (a14 : Nat) (a15 : Nat) (a16 : Nat) (o_threatCount : Int32) (o_textLength : Int32) (r_o_game_board : Nat) (o_game_made : Int32) (o_game_known : Int32) (o_game_stones0 : Int64) (o_game_stones1 : Int64) (o_game_list : Nat → Int32) (r_o_trial_board : Nat) (o_trial_made : Int32) (o_trial_known : Int32) (o_trial_stones0 : Int64) (o_trial_stones1 : Int64) (o_trial_list : Nat → Int32) (o_slots : Nat → Option Nat) (o_paths_layers : Nat → Int64) (o_table_count : Int32) (o_table_wins : Nat → Int64) (r_o_contest_board : Nat) (o_contest_from : Int64) (o_contest_to : Int64) (o_contest_spots : Nat → Int64) (o_contest_memo : Nat → Int64) (o_foundBridges : Nat → Int32) (o_threatPlayers : Nat → Int32) (o_threatRegions : Nat → Int64) (o_text : Nat → Int32) (p1 : Int32) (o : Int32 × Int32 × (Nat → Int32)) (hf : m_X5_append o_textLength o_text p1 = some o) : Met l yX5_append (wl yX5_append cX5_append 2 (some .int)) R_X5_append (PW [.ref a0, .int p1] D C sz (wX5 C a0 a1 a2 a3 a4 a5 a6 a7 a8 a9 a10 a11 a12 a13 a14 a15 a16 o_threatCount o_textLength r_o_game_board o_game_made o_game_known o_game_stones0 o_game_stones1 o_game_list r_o_trial_board o_trial_made o_trial_known o_trial_stones0 o_trial_stones1 o_trial_list o_slots o_paths_layers o_table_count o_table_wins r_o_contest_board o_contest_from o_contest_to o_contest_spots o_contest_memo o_foundBridges o_threatPlayers o_threatRegions o_text) ([] : va_W)) (QWi D o.1 (wX5 C a0 a1 a2 a3 a4 a5 a6 a7 a8 a9 a10 a11 a12 a13 a14 a15 a16 o_threatCount o.2.1 r_o_game_board o_game_made o_game_known o_game_stones0 o_game_stones1 o_game_list r_o_trial_board o_trial_made o_trial_known o_trial_stones0 o_trial_stones1 o_trial_list o_slots o_paths_layers o_table_count o_table_wins r_o_contest_board o_contest_from o_contest_to o_contest_spots o_contest_memo o_foundBridges o_threatPlayers o_threatRegions o.2.2) (va_A (wX5 C a0 a1 a2 a3 a4 a5 a6 a7 a8 a9 a10 a11 a12 a13 a14 a15 a16 o_threatCount o_textLength r_o_game_board o_game_made o_game_known o_game_stones0 o_game_stones1 o_game_list r_o_trial_board o_trial_made o_trial_known o_trial_stones0 o_trial_stones1 o_trial_list o_slots o_paths_layers o_table_count o_table_wins r_o_contest_board o_contest_from o_contest_to o_contest_spots o_contest_memo o_foundBridges o_threatPlayers o_threatRegions o_text) sz)) 0 0 (va_A (wX5 C a0 a1 a2 a3 a4 a5 a6 a7 a8 a9 a10 a11 a12 a13 a14 a15 a16 o_threatCount o_textLength r_o_game_board o_game_made o_game_known o_game_stones0 o_game_stones1 o_game_list r_o_trial_board o_trial_made o_trial_known o_trial_stones0 o_trial_stones1 o_trial_list o_slots o_paths_layers o_table_count o_table_wins r_o_contest_board o_contest_from o_contest_to o_contest_spots o_contest_memo o_foundBridges o_threatPlayers o_threatRegions o_text) sz) := by
  refine Met_ofC (by decide) ?_
  intro p e s m args below meth c hc hv
  obtain ⟨rfl, hsz, hP, hK, hD0, hO, hN0⟩ := hv
  subst hsz
  have hD := hD0.self (sz := s.heap.size)
  have hN : ∀ q ∈ ([] : va_W), ¬ va_A (wX5 C a0 a1 a2 a3 a4 a5 a6 a7 a8 a9 a10 a11 a12 a13 a14 a15 a16 o_threatCount o_textLength r_o_game_board o_game_made o_game_known o_game_stones0 o_game_stones1 o_game_list r_o_trial_board o_trial_made o_trial_known o_trial_stones0 o_trial_stones1 o_trial_list o_slots o_paths_layers o_table_count o_table_wins r_o_contest_board o_contest_from o_contest_to o_contest_spots o_contest_memo o_foundBridges o_threatPlayers o_threatRegions o_text) s.heap.size q.1 := hN0
  generalize hAe : va_A (wX5 C a0 a1 a2 a3 a4 a5 a6 a7 a8 a9 a10 a11 a12 a13 a14 a15 a16 o_threatCount o_textLength r_o_game_board o_game_made o_game_known o_game_stones0 o_game_stones1 o_game_list r_o_trial_board o_trial_made o_trial_known o_trial_stones0 o_trial_stones1 o_trial_list o_slots o_paths_layers o_table_count o_table_wins r_o_contest_board o_contest_from o_contest_to o_contest_spots o_contest_memo o_foundBridges o_threatPlayers o_threatRegions o_text) s.heap.size = A at hD hN ⊢
  have hA : ∀ q : Nat, s.heap.size ≤ q → A q := fun q h => by rw [← hAe]; exact Or.inr h
  have hS : va_S A s.heap s.heap [] := va_S.rf
  have hx := hc.1
  have hb := hc.2.1
  have hown := hc.2.2.2.2.1
  have hts := hc.2.2.2.2.2.1
  refine en_F rfl (fun ls hl => ?_)
  have hl : lv_has ls 2 [(0, .ref a0), (1, .int p1)] := hl
  refine lv_iload_n hx hb dX5_append_0 rfl (lv_at hl 1 rfl) ?_
  refine lv_if_lt (tgt := 10) hx hb dX5_append_1 (by decide) (fun c1 => ?_) (fun c1 => ?_)
  · have hf := if_t hf c1
    refine lv_bipush (v := (-12 : Int32)) hx hb dX5_append_10 (by decide) ?_
    have hf := Option.some.inj hf
    subst hf
    exact rWi hc rfl hP hD hS dX5_append_12
  · have hf := if_f hf c1
    refine lv_iload_n hx hb dX5_append_4 rfl (lv_at hl 1 rfl) ?_
    refine lv_bipush (v := (127 : Int32)) hx hb dX5_append_5 (by decide) ?_
    refine lv_icmp_le (tgt := 13) hx hb dX5_append_7 (by decide) (fun c2 => ?_) (fun c2 => ?_)
    · have hf := if_t hf c2
      refine lv_aload_n hx hb dX5_append_13 rfl (lv_at hl 0 rfl) ?_
      refine va_get (D := D) (ci := 5) (v := .int o_textLength) (C := RX5) (T := TX5) (N := 12) hx hb hts inX5 hown hK hP 0 rfl rfl 11 (by decide) (hts _ q_148) (fun _ h9 => h9) rfl dX5_append_14 ?_
      refine lv_bipush (v := (100 : Int32)) hx hb dX5_append_17 (by decide) ?_
      refine lv_icmp_lt (tgt := 25) hx hb dX5_append_19 (by decide) (fun c3 => ?_) (fun c3 => ?_)
      · have hf := if_t hf c3
        refine lv_aload_n hx hb dX5_append_25 rfl (lv_at hl 0 rfl) ?_
        refine va_get (D := D) (ci := 5) (v := .ref a16) (C := RX5) (T := TX5) (N := 12) hx hb hts inX5 hown hK hP 0 rfl rfl 10 (by decide) (hts _ q_147) (fun _ h9 => h9) rfl dX5_append_26 ?_
        refine lv_aload_n hx hb dX5_append_29 rfl (lv_at hl 0 rfl) ?_
        refine va_get (D := D) (ci := 5) (v := .int o_textLength) (C := RX5) (T := TX5) (N := 12) hx hb hts inX5 hown hK hP 0 rfl rfl 11 (by decide) (hts _ q_148) (fun _ h9 => h9) rfl dX5_append_30 ?_
        refine lv_iload_n hx hb dX5_append_33 rfl (lv_at hl 1 rfl) ?_
        refine lv_i2b (v := p1.toInt8.toInt32) hx hb dX5_append_34 rfl ?_
        obtain ⟨h4, hf⟩ := ok_t hf
        refine va_bast hx hb hK hP hD hS 16 2 rfl rfl (okI_in h4) dX5_append_35 (fun H locs hP hD hS => ?_)
        have hP : va_P D vwCl (wX5 C a0 a1 a2 a3 a4 a5 a6 a7 a8 a9 a10 a11 a12 a13 a14 a15 a16 o_threatCount o_textLength r_o_game_board o_game_made o_game_known o_game_stones0 o_game_stones1 o_game_list r_o_trial_board o_trial_made o_trial_known o_trial_stones0 o_trial_stones1 o_trial_list o_slots o_paths_layers o_table_count o_table_wins r_o_contest_board o_contest_from o_contest_to o_contest_spots o_contest_memo o_foundBridges o_threatPlayers o_threatRegions (upd o_text o_textLength.toNatClampNeg (vp_nar .byte p1.toInt8.toInt32))) H := hP
        have hD : va_D A (wX5 C a0 a1 a2 a3 a4 a5 a6 a7 a8 a9 a10 a11 a12 a13 a14 a15 a16 o_threatCount o_textLength r_o_game_board o_game_made o_game_known o_game_stones0 o_game_stones1 o_game_list r_o_trial_board o_trial_made o_trial_known o_trial_stones0 o_trial_stones1 o_trial_list o_slots o_paths_layers o_table_count o_table_wins r_o_contest_board o_contest_from o_contest_to o_contest_spots o_contest_memo o_foundBridges o_threatPlayers o_threatRegions (upd o_text o_textLength.toNatClampNeg (vp_nar .byte p1.toInt8.toInt32))) := hD
        refine lv_aload_n hx hb dX5_append_36 rfl (lv_at hl 0 rfl) ?_
        refine lv_dup hx hb dX5_append_37 rfl ?_
        refine va_get (D := D) (ci := 5) (v := .int o_textLength) (C := RX5) (T := TX5) (N := 12) hx hb hts inX5 hown hK hP 0 rfl rfl 11 (by decide) (hts _ q_148) (fun _ h9 => h9) rfl dX5_append_38 ?_
        refine lv_iconst (v := (1 : Int32)) hx hb dX5_append_41 (by decide) ?_
        refine lv_iadd hx hb dX5_append_42 ?_
        refine va_put (D := D) (ci := 5) (v := .int (o_textLength + (1 : Int32))) (ty := .int) (C := RX5) (T := TX5) (N := 12) hx hb hts inX5 tyX5 tyX5_ok nmX5 hown hK hP hD hS 0 rfl rfl 11 (by decide) (hts _ q_148) (fun _ h9 => h9) rfl (by decide +kernel) rfl rfl (Nat.le_of_ble_eq_true rfl) dX5_append_43 (fun H locs hP hD hS => ?_)
        have hP : va_P D vwCl (wX5 C a0 a1 a2 a3 a4 a5 a6 a7 a8 a9 a10 a11 a12 a13 a14 a15 a16 o_threatCount (o_textLength + (1 : Int32)) r_o_game_board o_game_made o_game_known o_game_stones0 o_game_stones1 o_game_list r_o_trial_board o_trial_made o_trial_known o_trial_stones0 o_trial_stones1 o_trial_list o_slots o_paths_layers o_table_count o_table_wins r_o_contest_board o_contest_from o_contest_to o_contest_spots o_contest_memo o_foundBridges o_threatPlayers o_threatRegions (upd o_text o_textLength.toNatClampNeg (vp_nar .byte p1.toInt8.toInt32))) H := hP
        have hD : va_D A (wX5 C a0 a1 a2 a3 a4 a5 a6 a7 a8 a9 a10 a11 a12 a13 a14 a15 a16 o_threatCount (o_textLength + (1 : Int32)) r_o_game_board o_game_made o_game_known o_game_stones0 o_game_stones1 o_game_list r_o_trial_board o_trial_made o_trial_known o_trial_stones0 o_trial_stones1 o_trial_list o_slots o_paths_layers o_table_count o_table_wins r_o_contest_board o_contest_from o_contest_to o_contest_spots o_contest_memo o_foundBridges o_threatPlayers o_threatRegions (upd o_text o_textLength.toNatClampNeg (vp_nar .byte p1.toInt8.toInt32))) := hD
        refine lv_aload_n hx hb dX5_append_46 rfl (lv_at hl 0 rfl) ?_
        refine va_get (D := D) (ci := 5) (v := .int (o_textLength + (1 : Int32))) (C := RX5) (T := TX5) (N := 12) hx hb hts inX5 hown hK hP 0 rfl rfl 11 (by decide) (hts _ q_148) (fun _ h9 => h9) rfl dX5_append_47 ?_
        have hf := Option.some.inj hf
        subst hf
        exact rWi hc rfl hP hD hS dX5_append_50
      · have hf := if_f hf c3
        refine lv_bipush (v := (-14 : Int32)) hx hb dX5_append_22 (by decide) ?_
        have hf := Option.some.inj hf
        subst hf
        exact rWi hc rfl hP hD hS dX5_append_24
    · have hf := if_f hf c2
      refine lv_bipush (v := (-12 : Int32)) hx hb dX5_append_10 (by decide) ?_
      have hf := Option.some.inj hf
      subst hf
      exact rWi hc rfl hP hD hS dX5_append_12
abbrev R_X5_clearText : Room := { frames := 0, cells := 0, slots := 0, locals := 0 }
def m_X5_clearText (o_textLength : Int32) : Int32 × Int32 := (o_textLength, (0 : Int32))
set_option maxHeartbeats 4000000 in
set_option maxRecDepth 100000 in
theorem c_X5_clearText (l : Launch) (D : va_G) (C : Nat → ClassId) (sz : Nat) (a0 : Nat) (a1 : Nat) (a2 : Nat) (a3 : Nat) (a4 : Nat) (a5 : Nat) (a6 : Nat) (a7 : Nat) (a8 : Nat) (a9 : Nat) (a10 : Nat) (a11 : Nat) (a12 : Nat) (a13 : Nat) (a14 : Nat) (a15 : Nat) (a16 : Nat) (o_threatCount : Int32) (o_textLength : Int32) (r_o_game_board : Nat) (o_game_made : Int32) (o_game_known : Int32) (o_game_stones0 : Int64) (o_game_stones1 : Int64) (o_game_list : Nat → Int32) (r_o_trial_board : Nat) (o_trial_made : Int32) (o_trial_known : Int32) (o_trial_stones0 : Int64) (o_trial_stones1 : Int64) (o_trial_list : Nat → Int32) (o_slots : Nat → Option Nat) (o_paths_layers : Nat → Int64) (o_table_count : Int32) (o_table_wins : Nat → Int64) (r_o_contest_board : Nat) (o_contest_from : Int64) (o_contest_to : Int64) (o_contest_spots : Nat → Int64) (o_contest_memo : Nat → Int64) (o_foundBridges : Nat → Int32) (o_threatPlayers : Nat → Int32) (o_threatRegions : Nat → Int64) (o_text : Nat → Int32) (o : Int32 × Int32) (hf : m_X5_clearText o_textLength = o) : Met l yX5_clearText (wl yX5_clearText cX5_clearText 2 (some .int)) R_X5_clearText (PW [.ref a0] D C sz (wX5 C a0 a1 a2 a3 a4 a5 a6 a7 a8 a9 a10 a11 a12 a13 a14 a15 a16 o_threatCount o_textLength r_o_game_board o_game_made o_game_known o_game_stones0 o_game_stones1 o_game_list r_o_trial_board o_trial_made o_trial_known o_trial_stones0 o_trial_stones1 o_trial_list o_slots o_paths_layers o_table_count o_table_wins r_o_contest_board o_contest_from o_contest_to o_contest_spots o_contest_memo o_foundBridges o_threatPlayers o_threatRegions o_text) ([] : va_W)) (QWi D o.1 (wX5 C a0 a1 a2 a3 a4 a5 a6 a7 a8 a9 a10 a11 a12 a13 a14 a15 a16 o_threatCount o.2 r_o_game_board o_game_made o_game_known o_game_stones0 o_game_stones1 o_game_list r_o_trial_board o_trial_made o_trial_known o_trial_stones0 o_trial_stones1 o_trial_list o_slots o_paths_layers o_table_count o_table_wins r_o_contest_board o_contest_from o_contest_to o_contest_spots o_contest_memo o_foundBridges o_threatPlayers o_threatRegions o_text) (va_A (wX5 C a0 a1 a2 a3 a4 a5 a6 a7 a8 a9 a10 a11 a12 a13 a14 a15 a16 o_threatCount o_textLength r_o_game_board o_game_made o_game_known o_game_stones0 o_game_stones1 o_game_list r_o_trial_board o_trial_made o_trial_known o_trial_stones0 o_trial_stones1 o_trial_list o_slots o_paths_layers o_table_count o_table_wins r_o_contest_board o_contest_from o_contest_to o_contest_spots o_contest_memo o_foundBridges o_threatPlayers o_threatRegions o_text) sz)) 0 0 (va_A (wX5 C a0 a1 a2 a3 a4 a5 a6 a7 a8 a9 a10 a11 a12 a13 a14 a15 a16 o_threatCount o_textLength r_o_game_board o_game_made o_game_known o_game_stones0 o_game_stones1 o_game_list r_o_trial_board o_trial_made o_trial_known o_trial_stones0 o_trial_stones1 o_trial_list o_slots o_paths_layers o_table_count o_table_wins r_o_contest_board o_contest_from o_contest_to o_contest_spots o_contest_memo o_foundBridges o_threatPlayers o_threatRegions o_text) sz) := by
  refine Met_ofC (by decide) ?_
  intro p e s m args below meth c hc hv
  obtain ⟨rfl, hsz, hP, hK, hD0, hO, hN0⟩ := hv
  subst hsz
  have hD := hD0.self (sz := s.heap.size)
  have hN : ∀ q ∈ ([] : va_W), ¬ va_A (wX5 C a0 a1 a2 a3 a4 a5 a6 a7 a8 a9 a10 a11 a12 a13 a14 a15 a16 o_threatCount o_textLength r_o_game_board o_game_made o_game_known o_game_stones0 o_game_stones1 o_game_list r_o_trial_board o_trial_made o_trial_known o_trial_stones0 o_trial_stones1 o_trial_list o_slots o_paths_layers o_table_count o_table_wins r_o_contest_board o_contest_from o_contest_to o_contest_spots o_contest_memo o_foundBridges o_threatPlayers o_threatRegions o_text) s.heap.size q.1 := hN0
  generalize hAe : va_A (wX5 C a0 a1 a2 a3 a4 a5 a6 a7 a8 a9 a10 a11 a12 a13 a14 a15 a16 o_threatCount o_textLength r_o_game_board o_game_made o_game_known o_game_stones0 o_game_stones1 o_game_list r_o_trial_board o_trial_made o_trial_known o_trial_stones0 o_trial_stones1 o_trial_list o_slots o_paths_layers o_table_count o_table_wins r_o_contest_board o_contest_from o_contest_to o_contest_spots o_contest_memo o_foundBridges o_threatPlayers o_threatRegions o_text) s.heap.size = A at hD hN ⊢
  have hA : ∀ q : Nat, s.heap.size ≤ q → A q := fun q h => by rw [← hAe]; exact Or.inr h
  have hS : va_S A s.heap s.heap [] := va_S.rf
  have hx := hc.1
  have hb := hc.2.1
  have hown := hc.2.2.2.2.1
  have hts := hc.2.2.2.2.2.1
  refine en_F rfl (fun ls hl => ?_)
  have hl : lv_has ls 2 [(0, .ref a0)] := hl
  refine lv_aload_n hx hb dX5_clearText_0 rfl (lv_at hl 0 rfl) ?_
  refine va_get (D := D) (ci := 5) (v := .int o_textLength) (C := RX5) (T := TX5) (N := 12) hx hb hts inX5 hown hK hP 0 rfl rfl 11 (by decide) (hts _ q_148) (fun _ h9 => h9) rfl dX5_clearText_1 ?_
  refine lv_istore_n (lv' := [(1, .int o_textLength), (0, .ref a0)]) hx hb dX5_clearText_4 rfl hl (by decide) rfl (fun ls hl => ?_)
  refine lv_aload_n hx hb dX5_clearText_5 rfl (lv_at hl 1 rfl) ?_
  refine lv_iconst (v := (0 : Int32)) hx hb dX5_clearText_6 (by decide) ?_
  refine va_put (D := D) (ci := 5) (v := .int (0 : Int32)) (ty := .int) (C := RX5) (T := TX5) (N := 12) hx hb hts inX5 tyX5 tyX5_ok nmX5 hown hK hP hD hS 0 rfl rfl 11 (by decide) (hts _ q_148) (fun _ h9 => h9) rfl (by decide +kernel) rfl rfl (Nat.le_of_ble_eq_true rfl) dX5_clearText_7 (fun H locs hP hD hS => ?_)
  have hP : va_P D vwCl (wX5 C a0 a1 a2 a3 a4 a5 a6 a7 a8 a9 a10 a11 a12 a13 a14 a15 a16 o_threatCount (0 : Int32) r_o_game_board o_game_made o_game_known o_game_stones0 o_game_stones1 o_game_list r_o_trial_board o_trial_made o_trial_known o_trial_stones0 o_trial_stones1 o_trial_list o_slots o_paths_layers o_table_count o_table_wins r_o_contest_board o_contest_from o_contest_to o_contest_spots o_contest_memo o_foundBridges o_threatPlayers o_threatRegions o_text) H := hP
  have hD : va_D A (wX5 C a0 a1 a2 a3 a4 a5 a6 a7 a8 a9 a10 a11 a12 a13 a14 a15 a16 o_threatCount (0 : Int32) r_o_game_board o_game_made o_game_known o_game_stones0 o_game_stones1 o_game_list r_o_trial_board o_trial_made o_trial_known o_trial_stones0 o_trial_stones1 o_trial_list o_slots o_paths_layers o_table_count o_table_wins r_o_contest_board o_contest_from o_contest_to o_contest_spots o_contest_memo o_foundBridges o_threatPlayers o_threatRegions o_text) := hD
  refine lv_iload_n hx hb dX5_clearText_10 rfl (lv_at hl 0 rfl) ?_
  subst hf
  exact rWi hc rfl hP hD hS dX5_clearText_11
abbrev R_X5_letterAt : Room := { frames := 0, cells := 0, slots := 0, locals := 0 }
def m_X5_letterAt (o_textLength : Int32) (o_text : Nat → Int32) (p1 : Int32) : Option (Int32) := (if p1 < 0 then some (-15 : Int32) else (if o_textLength ≤ p1 then some (-15 : Int32) else (if (100 : Int32) ≤ p1 then some (-15 : Int32) else (if okI p1 100 = true then some (o_text p1.toNatClampNeg) else none))))
set_option maxHeartbeats 4000000 in
set_option maxRecDepth 100000 in
theorem c_X5_letterAt (l : Launch) (D : va_G) (C : Nat → ClassId) (z0 : Nat) (z1 : Nat) (r_o_game : Nat) (r_o_trial : Nat) (r_o_slots : Nat) (r_o_paths : Nat) (r_o_table : Nat) (r_o_contest : Nat) (r_o_foundBridges : Nat) (r_o_threatPlayers : Nat) (r_o_threatRegions : Nat) (o_threatCount : Int32) (o_textLength : Int32) (o_text : Nat → Int32) (p1 : Int32) (o : Int32) (hf : m_X5_letterAt o_textLength o_text p1 = some o) : Met l yX5_letterAt (wl yX5_letterAt cX5_letterAt 2 (some .int)) R_X5_letterAt (PR [.ref z0, .int p1] D C [cX5 z0 r_o_game r_o_trial r_o_slots r_o_paths r_o_table r_o_contest r_o_foundBridges r_o_threatPlayers r_o_threatRegions o_threatCount z1 o_textLength, aB C z1 100 o_text]) (vp_Si (fun r => r = o)) 0 0 (fun _ => False) := by
  refine Met_ofC (by decide) ?_
  intro p e s m args below meth c hc hv
  obtain ⟨rfl, hP, hK⟩ := hv
  have hx := hc.1
  have hb := hc.2.1
  have hown := hc.2.2.2.2.1
  have hts := hc.2.2.2.2.2.1
  refine en_F rfl (fun ls hl => ?_)
  have hl : lv_has ls 2 [(0, .ref z0), (1, .int p1)] := hl
  refine lv_iload_n hx hb dX5_letterAt_0 rfl (lv_at hl 1 rfl) ?_
  refine lv_if_lt (tgt := 27) hx hb dX5_letterAt_1 (by decide) (fun c1 => ?_) (fun c1 => ?_)
  · have hf := if_t hf c1
    refine lv_bipush (v := (-15 : Int32)) hx hb dX5_letterAt_27 (by decide) ?_
    exact rRi hc (Option.some.inj hf) dX5_letterAt_29
  · have hf := if_f hf c1
    refine lv_iload_n hx hb dX5_letterAt_4 rfl (lv_at hl 1 rfl) ?_
    refine lv_aload_n hx hb dX5_letterAt_5 rfl (lv_at hl 0 rfl) ?_
    refine va_get (D := D) (ci := 5) (v := .int o_textLength) (C := RX5) (T := TX5) (N := 12) hx hb hts inX5 hown hK hP 0 rfl rfl 11 (by decide) (hts _ q_148) (fun _ h9 => h9) rfl dX5_letterAt_6 ?_
    refine lv_icmp_ge (tgt := 27) hx hb dX5_letterAt_9 (by decide) (fun c2 => ?_) (fun c2 => ?_)
    · have hf := if_t hf c2
      refine lv_bipush (v := (-15 : Int32)) hx hb dX5_letterAt_27 (by decide) ?_
      exact rRi hc (Option.some.inj hf) dX5_letterAt_29
    · have hf := if_f hf c2
      refine lv_iload_n hx hb dX5_letterAt_12 rfl (lv_at hl 1 rfl) ?_
      refine lv_bipush (v := (100 : Int32)) hx hb dX5_letterAt_13 (by decide) ?_
      refine lv_icmp_ge (tgt := 27) hx hb dX5_letterAt_15 (by decide) (fun c3 => ?_) (fun c3 => ?_)
      · have hf := if_t hf c3
        refine lv_bipush (v := (-15 : Int32)) hx hb dX5_letterAt_27 (by decide) ?_
        exact rRi hc (Option.some.inj hf) dX5_letterAt_29
      · have hf := if_f hf c3
        refine lv_aload_n hx hb dX5_letterAt_18 rfl (lv_at hl 0 rfl) ?_
        refine va_get (D := D) (ci := 5) (v := .ref z1) (C := RX5) (T := TX5) (N := 12) hx hb hts inX5 hown hK hP 0 rfl rfl 10 (by decide) (hts _ q_147) (fun _ h9 => h9) rfl dX5_letterAt_19 ?_
        refine lv_iload_n hx hb dX5_letterAt_22 rfl (lv_at hl 1 rfl) ?_
        obtain ⟨h4, hf⟩ := ok_t hf
        refine va_bald hx hb hK hP 1 2 rfl rfl (okI_in h4) dX5_letterAt_23 ?_
        refine lv_goto (tgt := 29) hx hb dX5_letterAt_24 (by decide) ?_
        exact rRi hc (Option.some.inj hf) dX5_letterAt_29
abbrev R_X5_moveLength : Room := { frames := 1, cells := 0, slots := 0, locals := 21 }
def m_X5_moveLength (o_textLength : Int32) (o_text : Nat → Int32) (p1 : Int32) : Option (Int32) := ((m_X5_letterAt o_textLength o_text p1).bind fun u1 => (if u1 = (83 : Int32) then some (1 : Int32) else some (2 : Int32)))
set_option maxHeartbeats 4000000 in
set_option maxRecDepth 100000 in
theorem c_X5_moveLength (l : Launch) (D : va_G) (C : Nat → ClassId) (z0 : Nat) (z1 : Nat) (r_o_game : Nat) (r_o_trial : Nat) (r_o_slots : Nat) (r_o_paths : Nat) (r_o_table : Nat) (r_o_contest : Nat) (r_o_foundBridges : Nat) (r_o_threatPlayers : Nat) (r_o_threatRegions : Nat) (o_threatCount : Int32) (o_textLength : Int32) (o_text : Nat → Int32) (p1 : Int32) (o : Int32) (hf : m_X5_moveLength o_textLength o_text p1 = some o) : Met l yX5_moveLength (wl yX5_moveLength cX5_moveLength 2 (some .int)) R_X5_moveLength (PR [.ref z0, .int p1] D C [cX5 z0 r_o_game r_o_trial r_o_slots r_o_paths r_o_table r_o_contest r_o_foundBridges r_o_threatPlayers r_o_threatRegions o_threatCount z1 o_textLength, aB C z1 100 o_text]) (vp_Si (fun r => r = o)) 0 0 (fun _ => False) := by
  refine Met_ofC (by decide) ?_
  intro p e s m args below meth c hc hv
  obtain ⟨rfl, hP, hK⟩ := hv
  have hx := hc.1
  have hb := hc.2.1
  have hown := hc.2.2.2.2.1
  have hts := hc.2.2.2.2.2.1
  refine en_F rfl (fun ls hl => ?_)
  have hl : lv_has ls 2 [(0, .ref z0), (1, .int p1)] := hl
  refine lv_aload_n hx hb dX5_moveLength_0 rfl (lv_at hl 0 rfl) ?_
  refine lv_iload_n hx hb dX5_moveLength_1 rfl (lv_at hl 1 rfl) ?_
  obtain ⟨u1, hu1, hf⟩ := bind_some hf
  refine rcVi (As := [.int p1]) (rest := []) hc k_X5_327 (c_X5_letterAt l D C z0 z1 r_o_game r_o_trial r_o_slots r_o_paths r_o_table r_o_contest r_o_foundBridges r_o_threatPlayers r_o_threatRegions o_threatCount o_textLength o_text p1  _ hu1) ⟨rfl, rfl, Nat.le_of_ble_eq_true rfl, Nat.le_of_ble_eq_true rfl⟩ (hP.sub [0, 1] rfl) hK (q0 := 0) rfl rfl rfl hl rfl rfl (Nat.le_of_ble_eq_true rfl) ⟨Nat.zero_le _, Nat.zero_le _⟩ dX5_moveLength_2 ?_
  refine lv_bipush (v := (83 : Int32)) hx hb dX5_moveLength_5 (by decide) ?_
  refine lv_icmp_ne (tgt := 14) hx hb dX5_moveLength_7 (by decide) (fun c2 => ?_) (fun c2 => ?_)
  · have hf := if_f hf c2
    refine lv_iconst (v := (2 : Int32)) hx hb dX5_moveLength_14 (by decide) ?_
    exact rRi hc (Option.some.inj hf) dX5_moveLength_15
  · have hf := if_t hf c2
    refine lv_iconst (v := (1 : Int32)) hx hb dX5_moveLength_10 (by decide) ?_
    refine lv_goto (tgt := 15) hx hb dX5_moveLength_11 (by decide) ?_
    exact rRi hc (Option.some.inj hf) dX5_moveLength_15
abbrev R_X5_cellAt : Room := { frames := 1, cells := 0, slots := 0, locals := 21 }
def m_X5_cellAt (o_textLength : Int32) (o_text : Nat → Int32) (o_game_board_size : Int32) (p1 : Int32) : Option (Int32) := ((m_X5_letterAt o_textLength o_text (p1 + (1 : Int32))).bind fun u1 => ((m_X5_letterAt o_textLength o_text p1).bind fun u2 => some ((((u1 - (49 : Int32)) * o_game_board_size) + u2) - (97 : Int32))))
set_option maxHeartbeats 4000000 in
set_option maxRecDepth 100000 in
theorem c_X5_cellAt (l : Launch) (D : va_G) (C : Nat → ClassId) (z0 : Nat) (z1 : Nat) (z2 : Nat) (z3 : Nat) (r_o_trial : Nat) (r_o_slots : Nat) (r_o_paths : Nat) (r_o_table : Nat) (r_o_contest : Nat) (r_o_foundBridges : Nat) (r_o_threatPlayers : Nat) (r_o_threatRegions : Nat) (o_threatCount : Int32) (o_textLength : Int32) (o_text : Nat → Int32) (o_game_made : Int32) (o_game_known : Int32) (r_o_game_list : Nat) (o_game_stones0 : Int64) (o_game_stones1 : Int64) (o_game_board_size : Int32) (o_game_board_cells : Int32) (o_game_board_all : Int64) (o_game_board_upper : Int64) (o_game_board_lower : Int64) (o_game_board_left : Int64) (o_game_board_right : Int64) (p1 : Int32) (o : Int32) (hf : m_X5_cellAt o_textLength o_text o_game_board_size p1 = some o) : Met l yX5_cellAt (wl yX5_cellAt cX5_cellAt 2 (some .int)) R_X5_cellAt (PR [.ref z0, .int p1] D C [cX5 z0 z2 r_o_trial r_o_slots r_o_paths r_o_table r_o_contest r_o_foundBridges r_o_threatPlayers r_o_threatRegions o_threatCount z1 o_textLength, aB C z1 100 o_text, cX3 z2 z3 o_game_made o_game_known r_o_game_list o_game_stones0 o_game_stones1, cX0 z3 o_game_board_size o_game_board_cells o_game_board_all o_game_board_upper o_game_board_lower o_game_board_left o_game_board_right]) (vp_Si (fun r => r = o)) 0 0 (fun _ => False) := by
  refine Met_ofC (by decide) ?_
  intro p e s m args below meth c hc hv
  obtain ⟨rfl, hP, hK⟩ := hv
  have hx := hc.1
  have hb := hc.2.1
  have hown := hc.2.2.2.2.1
  have hts := hc.2.2.2.2.2.1
  refine en_F rfl (fun ls hl => ?_)
  have hl : lv_has ls 2 [(0, .ref z0), (1, .int p1)] := hl
  refine lv_aload_n hx hb dX5_cellAt_0 rfl (lv_at hl 0 rfl) ?_
  refine lv_iload_n hx hb dX5_cellAt_1 rfl (lv_at hl 1 rfl) ?_
  refine lv_iconst (v := (1 : Int32)) hx hb dX5_cellAt_2 (by decide) ?_
  refine lv_iadd hx hb dX5_cellAt_3 ?_
  obtain ⟨u1, hu1, hf⟩ := bind_some hf
  refine rcVi (As := [.int (p1 + (1 : Int32))]) (rest := []) hc k_X5_327 (c_X5_letterAt l D C z0 z1 z2 r_o_trial r_o_slots r_o_paths r_o_table r_o_contest r_o_foundBridges r_o_threatPlayers r_o_threatRegions o_threatCount o_textLength o_text (p1 + (1 : Int32))  _ hu1) ⟨rfl, rfl, Nat.le_of_ble_eq_true rfl, Nat.le_of_ble_eq_true rfl⟩ (hP.sub [0, 1] rfl) hK (q0 := 0) rfl rfl rfl hl rfl rfl (Nat.le_of_ble_eq_true rfl) ⟨Nat.zero_le _, Nat.zero_le _⟩ dX5_cellAt_4 ?_
  refine lv_bipush (v := (49 : Int32)) hx hb dX5_cellAt_7 (by decide) ?_
  refine lv_isub hx hb dX5_cellAt_9 ?_
  refine lv_aload_n hx hb dX5_cellAt_10 rfl (lv_at hl 0 rfl) ?_
  refine va_get (D := D) (ci := 5) (v := .ref z2) (C := RX5) (T := TX5) (N := 12) hx hb hts inX5 hown hK hP 0 rfl rfl 0 (by decide) (hts _ q_137) (fun _ h9 => h9) rfl dX5_cellAt_11 ?_
  refine va_get (D := D) (ci := 3) (v := .ref z3) (C := RX3) (T := TX3) (N := 6) hx hb hts inX3 hown hK hP 2 rfl rfl 0 (by decide) (hts _ q_94) (fun _ h9 => h9) rfl dX5_cellAt_14 ?_
  refine va_get (D := D) (ci := 0) (v := .int o_game_board_size) (C := RX0) (T := TX0) (N := 7) hx hb hts inX0 hown hK hP 3 rfl rfl 0 (by decide) (hts _ q_51) (fun _ h9 => h9) rfl dX5_cellAt_17 ?_
  refine lv_imul hx hb dX5_cellAt_20 ?_
  refine lv_aload_n hx hb dX5_cellAt_21 rfl (lv_at hl 0 rfl) ?_
  refine lv_iload_n hx hb dX5_cellAt_22 rfl (lv_at hl 1 rfl) ?_
  obtain ⟨u2, hu2, hf⟩ := bind_some hf
  refine rcVi (As := [.int p1]) (rest := [.int ((u1 - (49 : Int32)) * o_game_board_size)]) hc k_X5_327 (c_X5_letterAt l D C z0 z1 z2 r_o_trial r_o_slots r_o_paths r_o_table r_o_contest r_o_foundBridges r_o_threatPlayers r_o_threatRegions o_threatCount o_textLength o_text p1  _ hu2) ⟨rfl, rfl, Nat.le_of_ble_eq_true rfl, Nat.le_of_ble_eq_true rfl⟩ (hP.sub [0, 1] rfl) hK (q0 := 0) rfl rfl rfl hl rfl rfl (Nat.le_of_ble_eq_true rfl) ⟨Nat.zero_le _, Nat.zero_le _⟩ dX5_cellAt_23 ?_
  refine lv_iadd hx hb dX5_cellAt_26 ?_
  refine lv_bipush (v := (97 : Int32)) hx hb dX5_cellAt_27 (by decide) ?_
  refine lv_isub hx hb dX5_cellAt_29 ?_
  exact rRi hc (Option.some.inj hf) dX5_cellAt_30
abbrev R_X5_faultOfMove : Room := { frames := 4, cells := 0, slots := 0, locals := 103 }
def m_X5_faultOfMove (o_textLength : Int32) (o_game_board_size : Int32) (o_trial_made : Int32) (o_trial_stones0 : Int64) (o_trial_stones1 : Int64) (o_trial_board_size : Int32) (o_trial_board_cells : Int32) (o_trial_board_all : Int64) (o_trial_board_upper : Int64) (o_trial_board_lower : Int64) (o_trial_board_left : Int64) (o_trial_board_right : Int64) (o_text : Nat → Int32) (p1 : Int32) (p2 : Int32) : Option (Int32) := ((m_X3_victor o_trial_stones0 o_trial_stones1 o_trial_board_size o_trial_board_cells o_trial_board_all o_trial_board_upper o_trial_board_lower o_trial_board_left o_trial_board_right).bind fun u1 => (if u1 = (-15 : Int32) then (if p2 = (1 : Int32) then (if (m_X3_maySwap o_trial_made) = 0 then some p1 else some (-15 : Int32)) else ((m_X5_letterAt o_textLength o_text p1).bind fun u4 => (if u4 < (97 : Int32) then some p1 else ((m_X5_letterAt o_textLength o_text p1).bind fun u6 => (if u6 < ((97 : Int32) + o_game_board_size) then ((m_X5_letterAt o_textLength o_text (p1 + (1 : Int32))).bind fun u8 => (if u8 < (49 : Int32) then some (p1 + (1 : Int32)) else ((m_X5_letterAt o_textLength o_text (p1 + (1 : Int32))).bind fun u10 => (if ((49 : Int32) + o_game_board_size) ≤ u10 then some (p1 + (1 : Int32)) else ((m_X5_cellAt o_textLength o_text o_game_board_size p1).bind fun u12 => (if (m_X3_isFree o_trial_stones0 o_trial_stones1 o_trial_board_all u12) = 0 then some (p1 + (1 : Int32)) else some (-15 : Int32))))))) else some p1))))) else some p1))
set_option maxHeartbeats 4000000 in
set_option maxRecDepth 100000 in
theorem c_X5_faultOfMove (l : Launch) (D : va_G) (C : Nat → ClassId) (z0 : Nat) (z1 : Nat) (z2 : Nat) (z3 : Nat) (z4 : Nat) (z5 : Nat) (r_o_slots : Nat) (r_o_paths : Nat) (r_o_table : Nat) (r_o_contest : Nat) (r_o_foundBridges : Nat) (r_o_threatPlayers : Nat) (r_o_threatRegions : Nat) (o_threatCount : Int32) (o_textLength : Int32) (o_game_made : Int32) (o_game_known : Int32) (r_o_game_list : Nat) (o_game_stones0 : Int64) (o_game_stones1 : Int64) (o_game_board_size : Int32) (o_game_board_cells : Int32) (o_game_board_all : Int64) (o_game_board_upper : Int64) (o_game_board_lower : Int64) (o_game_board_left : Int64) (o_game_board_right : Int64) (o_trial_made : Int32) (o_trial_known : Int32) (r_o_trial_list : Nat) (o_trial_stones0 : Int64) (o_trial_stones1 : Int64) (o_trial_board_size : Int32) (o_trial_board_cells : Int32) (o_trial_board_all : Int64) (o_trial_board_upper : Int64) (o_trial_board_lower : Int64) (o_trial_board_left : Int64) (o_trial_board_right : Int64) (o_text : Nat → Int32) (p1 : Int32) (p2 : Int32) (o : Int32) (hf : m_X5_faultOfMove o_textLength o_game_board_size o_trial_made o_trial_stones0 o_trial_stones1 o_trial_board_size o_trial_board_cells o_trial_board_all o_trial_board_upper o_trial_board_lower o_trial_board_left o_trial_board_right o_text p1 p2 = some o) : Met l yX5_faultOfMove (wl yX5_faultOfMove cX5_faultOfMove 4 (some .int)) R_X5_faultOfMove (PR [.ref z0, .int p1, .int p2] D C [cX5 z0 z1 z3 r_o_slots r_o_paths r_o_table r_o_contest r_o_foundBridges r_o_threatPlayers r_o_threatRegions o_threatCount z5 o_textLength, cX3 z1 z2 o_game_made o_game_known r_o_game_list o_game_stones0 o_game_stones1, cX0 z2 o_game_board_size o_game_board_cells o_game_board_all o_game_board_upper o_game_board_lower o_game_board_left o_game_board_right, cX3 z3 z4 o_trial_made o_trial_known r_o_trial_list o_trial_stones0 o_trial_stones1, cX0 z4 o_trial_board_size o_trial_board_cells o_trial_board_all o_trial_board_upper o_trial_board_lower o_trial_board_left o_trial_board_right, aB C z5 100 o_text]) (vp_Si (fun r => r = o)) 0 0 (fun _ => False) := by
  refine Met_ofC (by decide) ?_
  intro p e s m args below meth c hc hv
  obtain ⟨rfl, hP, hK⟩ := hv
  have hx := hc.1
  have hb := hc.2.1
  have hown := hc.2.2.2.2.1
  have hts := hc.2.2.2.2.2.1
  refine en_F rfl (fun ls hl => ?_)
  have hl : lv_has ls 4 [(0, .ref z0), (1, .int p1), (2, .int p2)] := hl
  refine lv_aload_n hx hb dX5_faultOfMove_0 rfl (lv_at hl 0 rfl) ?_
  refine va_get (D := D) (ci := 5) (v := .ref z1) (C := RX5) (T := TX5) (N := 12) hx hb hts inX5 hown hK hP 0 rfl rfl 0 (by decide) (hts _ q_137) (fun _ h9 => h9) rfl dX5_faultOfMove_1 ?_
  refine va_get (D := D) (ci := 3) (v := .ref z2) (C := RX3) (T := TX3) (N := 6) hx hb hts inX3 hown hK hP 1 rfl rfl 0 (by decide) (hts _ q_94) (fun _ h9 => h9) rfl dX5_faultOfMove_4 ?_
  refine va_get (D := D) (ci := 0) (v := .int o_game_board_size) (C := RX0) (T := TX0) (N := 7) hx hb hts inX0 hown hK hP 2 rfl rfl 0 (by decide) (hts _ q_51) (fun _ h9 => h9) rfl dX5_faultOfMove_7 ?_
  refine lv_istore_n (lv' := [(3, .int o_game_board_size), (0, .ref z0), (1, .int p1), (2, .int p2)]) hx hb dX5_faultOfMove_10 rfl hl (by decide) rfl (fun ls hl => ?_)
  refine lv_aload_n hx hb dX5_faultOfMove_11 rfl (lv_at hl 1 rfl) ?_
  refine va_get (D := D) (ci := 5) (v := .ref z3) (C := RX5) (T := TX5) (N := 12) hx hb hts inX5 hown hK hP 0 rfl rfl 1 (by decide) (hts _ q_138) (fun _ h9 => h9) rfl dX5_faultOfMove_12 ?_
  obtain ⟨u1, hu1, hf⟩ := bind_some hf
  refine rcVi (As := []) (rest := []) hc k_X5_87 (c_X3_victor l D C z3 z4 o_trial_made o_trial_known r_o_trial_list o_trial_stones0 o_trial_stones1 o_trial_board_size o_trial_board_cells o_trial_board_all o_trial_board_upper o_trial_board_lower o_trial_board_left o_trial_board_right  _ hu1) ⟨rfl, rfl, Nat.le_of_ble_eq_true rfl, Nat.le_of_ble_eq_true rfl⟩ (hP.sub [3, 4] rfl) hK (q0 := 0) rfl rfl rfl hl rfl rfl (Nat.le_of_ble_eq_true rfl) ⟨Nat.zero_le _, Nat.zero_le _⟩ dX5_faultOfMove_15 ?_
  refine lv_bipush (v := (-15 : Int32)) hx hb dX5_faultOfMove_18 (by decide) ?_
  refine lv_icmp_eq (tgt := 25) hx hb dX5_faultOfMove_20 (by decide) (fun c2 => ?_) (fun c2 => ?_)
  · have hf := if_t hf c2
    refine lv_iload_n hx hb dX5_faultOfMove_25 rfl (lv_at hl 3 rfl) ?_
    refine lv_iconst (v := (1 : Int32)) hx hb dX5_faultOfMove_26 (by decide) ?_
    refine lv_icmp_ne (tgt := 47) hx hb dX5_faultOfMove_27 (by decide) (fun c3 => ?_) (fun c3 => ?_)
    · have hf := if_f hf c3
      refine lv_aload_n hx hb dX5_faultOfMove_47 rfl (lv_at hl 1 rfl) ?_
      refine lv_iload_n hx hb dX5_faultOfMove_48 rfl (lv_at hl 2 rfl) ?_
      obtain ⟨u4, hu4, hf⟩ := bind_some hf
      refine rcVi (As := [.int p1]) (rest := []) hc k_X5_327 (c_X5_letterAt l D C z0 z5 z1 z3 r_o_slots r_o_paths r_o_table r_o_contest r_o_foundBridges r_o_threatPlayers r_o_threatRegions o_threatCount o_textLength o_text p1  _ hu4) ⟨rfl, rfl, Nat.le_of_ble_eq_true rfl, Nat.le_of_ble_eq_true rfl⟩ (hP.sub [0, 5] rfl) hK (q0 := 0) rfl rfl rfl hl rfl rfl (Nat.le_of_ble_eq_true rfl) ⟨Nat.zero_le _, Nat.zero_le _⟩ dX5_faultOfMove_49 ?_
      refine lv_bipush (v := (97 : Int32)) hx hb dX5_faultOfMove_52 (by decide) ?_
      refine lv_icmp_lt (tgt := 69) hx hb dX5_faultOfMove_54 (by decide) (fun c5 => ?_) (fun c5 => ?_)
      · have hf := if_t hf c5
        refine lv_iload_n hx hb dX5_faultOfMove_69 rfl (lv_at hl 2 rfl) ?_
        exact rRi hc (Option.some.inj hf) dX5_faultOfMove_70
      · have hf := if_f hf c5
        refine lv_aload_n hx hb dX5_faultOfMove_57 rfl (lv_at hl 1 rfl) ?_
        refine lv_iload_n hx hb dX5_faultOfMove_58 rfl (lv_at hl 2 rfl) ?_
        obtain ⟨u6, hu6, hf⟩ := bind_some hf
        refine rcVi (As := [.int p1]) (rest := []) hc k_X5_327 (c_X5_letterAt l D C z0 z5 z1 z3 r_o_slots r_o_paths r_o_table r_o_contest r_o_foundBridges r_o_threatPlayers r_o_threatRegions o_threatCount o_textLength o_text p1  _ hu6) ⟨rfl, rfl, Nat.le_of_ble_eq_true rfl, Nat.le_of_ble_eq_true rfl⟩ (hP.sub [0, 5] rfl) hK (q0 := 0) rfl rfl rfl hl rfl rfl (Nat.le_of_ble_eq_true rfl) ⟨Nat.zero_le _, Nat.zero_le _⟩ dX5_faultOfMove_59 ?_
        refine lv_bipush (v := (97 : Int32)) hx hb dX5_faultOfMove_62 (by decide) ?_
        refine lv_iload_n hx hb dX5_faultOfMove_64 rfl (lv_at hl 0 rfl) ?_
        refine lv_iadd hx hb dX5_faultOfMove_65 ?_
        refine lv_icmp_lt (tgt := 71) hx hb dX5_faultOfMove_66 (by decide) (fun c7 => ?_) (fun c7 => ?_)
        · have hf := if_t hf c7
          refine lv_aload_n hx hb dX5_faultOfMove_71 rfl (lv_at hl 1 rfl) ?_
          refine lv_iload_n hx hb dX5_faultOfMove_72 rfl (lv_at hl 2 rfl) ?_
          refine lv_iconst (v := (1 : Int32)) hx hb dX5_faultOfMove_73 (by decide) ?_
          refine lv_iadd hx hb dX5_faultOfMove_74 ?_
          obtain ⟨u8, hu8, hf⟩ := bind_some hf
          refine rcVi (As := [.int (p1 + (1 : Int32))]) (rest := []) hc k_X5_327 (c_X5_letterAt l D C z0 z5 z1 z3 r_o_slots r_o_paths r_o_table r_o_contest r_o_foundBridges r_o_threatPlayers r_o_threatRegions o_threatCount o_textLength o_text (p1 + (1 : Int32))  _ hu8) ⟨rfl, rfl, Nat.le_of_ble_eq_true rfl, Nat.le_of_ble_eq_true rfl⟩ (hP.sub [0, 5] rfl) hK (q0 := 0) rfl rfl rfl hl rfl rfl (Nat.le_of_ble_eq_true rfl) ⟨Nat.zero_le _, Nat.zero_le _⟩ dX5_faultOfMove_75 ?_
          refine lv_bipush (v := (49 : Int32)) hx hb dX5_faultOfMove_78 (by decide) ?_
          refine lv_icmp_lt (tgt := 112) hx hb dX5_faultOfMove_80 (by decide) (fun c9 => ?_) (fun c9 => ?_)
          · have hf := if_t hf c9
            refine lv_iload_n hx hb dX5_faultOfMove_112 rfl (lv_at hl 2 rfl) ?_
            refine lv_iconst (v := (1 : Int32)) hx hb dX5_faultOfMove_113 (by decide) ?_
            refine lv_iadd hx hb dX5_faultOfMove_114 ?_
            exact rRi hc (Option.some.inj hf) dX5_faultOfMove_115
          · have hf := if_f hf c9
            refine lv_aload_n hx hb dX5_faultOfMove_83 rfl (lv_at hl 1 rfl) ?_
            refine lv_iload_n hx hb dX5_faultOfMove_84 rfl (lv_at hl 2 rfl) ?_
            refine lv_iconst (v := (1 : Int32)) hx hb dX5_faultOfMove_85 (by decide) ?_
            refine lv_iadd hx hb dX5_faultOfMove_86 ?_
            obtain ⟨u10, hu10, hf⟩ := bind_some hf
            refine rcVi (As := [.int (p1 + (1 : Int32))]) (rest := []) hc k_X5_327 (c_X5_letterAt l D C z0 z5 z1 z3 r_o_slots r_o_paths r_o_table r_o_contest r_o_foundBridges r_o_threatPlayers r_o_threatRegions o_threatCount o_textLength o_text (p1 + (1 : Int32))  _ hu10) ⟨rfl, rfl, Nat.le_of_ble_eq_true rfl, Nat.le_of_ble_eq_true rfl⟩ (hP.sub [0, 5] rfl) hK (q0 := 0) rfl rfl rfl hl rfl rfl (Nat.le_of_ble_eq_true rfl) ⟨Nat.zero_le _, Nat.zero_le _⟩ dX5_faultOfMove_87 ?_
            refine lv_bipush (v := (49 : Int32)) hx hb dX5_faultOfMove_90 (by decide) ?_
            refine lv_iload_n hx hb dX5_faultOfMove_92 rfl (lv_at hl 0 rfl) ?_
            refine lv_iadd hx hb dX5_faultOfMove_93 ?_
            refine lv_icmp_ge (tgt := 112) hx hb dX5_faultOfMove_94 (by decide) (fun c11 => ?_) (fun c11 => ?_)
            · have hf := if_t hf c11
              refine lv_iload_n hx hb dX5_faultOfMove_112 rfl (lv_at hl 2 rfl) ?_
              refine lv_iconst (v := (1 : Int32)) hx hb dX5_faultOfMove_113 (by decide) ?_
              refine lv_iadd hx hb dX5_faultOfMove_114 ?_
              exact rRi hc (Option.some.inj hf) dX5_faultOfMove_115
            · have hf := if_f hf c11
              refine lv_aload_n hx hb dX5_faultOfMove_97 rfl (lv_at hl 1 rfl) ?_
              refine va_get (D := D) (ci := 5) (v := .ref z3) (C := RX5) (T := TX5) (N := 12) hx hb hts inX5 hown hK hP 0 rfl rfl 1 (by decide) (hts _ q_138) (fun _ h9 => h9) rfl dX5_faultOfMove_98 ?_
              refine lv_aload_n hx hb dX5_faultOfMove_101 rfl (lv_at hl 1 rfl) ?_
              refine lv_iload_n hx hb dX5_faultOfMove_102 rfl (lv_at hl 2 rfl) ?_
              obtain ⟨u12, hu12, hf⟩ := bind_some hf
              refine rcVi (As := [.int p1]) (rest := [.ref z3]) hc k_X5_324 (c_X5_cellAt l D C z0 z5 z1 z2 z3 r_o_slots r_o_paths r_o_table r_o_contest r_o_foundBridges r_o_threatPlayers r_o_threatRegions o_threatCount o_textLength o_text o_game_made o_game_known r_o_game_list o_game_stones0 o_game_stones1 o_game_board_size o_game_board_cells o_game_board_all o_game_board_upper o_game_board_lower o_game_board_left o_game_board_right p1  _ hu12) ⟨rfl, rfl, Nat.le_of_ble_eq_true rfl, Nat.le_of_ble_eq_true rfl⟩ (hP.sub [0, 5, 1, 2] rfl) hK (q0 := 0) rfl rfl rfl hl rfl rfl (Nat.le_of_ble_eq_true rfl) ⟨Nat.zero_le _, Nat.zero_le _⟩ dX5_faultOfMove_103 ?_
              refine rcVi (As := [.int u12]) (rest := []) hc k_X5_84 (c_X3_isFree l D C z3 z4 o_trial_made o_trial_known r_o_trial_list o_trial_stones0 o_trial_stones1 o_trial_board_size o_trial_board_cells o_trial_board_all o_trial_board_upper o_trial_board_lower o_trial_board_left o_trial_board_right u12  _ rfl) ⟨rfl, rfl, Nat.le_of_ble_eq_true rfl, Nat.le_of_ble_eq_true rfl⟩ (hP.sub [3, 4] rfl) hK (q0 := 0) rfl rfl rfl hl rfl rfl (Nat.le_of_ble_eq_true rfl) ⟨Nat.zero_le _, Nat.zero_le _⟩ dX5_faultOfMove_106 ?_
              refine lv_if_ne (tgt := 116) hx hb dX5_faultOfMove_109 (by decide) (fun c13 => ?_) (fun c13 => ?_)
              · have hf := if_f hf c13
                refine lv_bipush (v := (-15 : Int32)) hx hb dX5_faultOfMove_116 (by decide) ?_
                exact rRi hc (Option.some.inj hf) dX5_faultOfMove_118
              · have hf := if_t hf c13
                refine lv_iload_n hx hb dX5_faultOfMove_112 rfl (lv_at hl 2 rfl) ?_
                refine lv_iconst (v := (1 : Int32)) hx hb dX5_faultOfMove_113 (by decide) ?_
                refine lv_iadd hx hb dX5_faultOfMove_114 ?_
                exact rRi hc (Option.some.inj hf) dX5_faultOfMove_115
        · have hf := if_f hf c7
          refine lv_iload_n hx hb dX5_faultOfMove_69 rfl (lv_at hl 2 rfl) ?_
          exact rRi hc (Option.some.inj hf) dX5_faultOfMove_70
    · have hf := if_t hf c3
      refine lv_aload_n hx hb dX5_faultOfMove_30 rfl (lv_at hl 1 rfl) ?_
      refine va_get (D := D) (ci := 5) (v := .ref z3) (C := RX5) (T := TX5) (N := 12) hx hb hts inX5 hown hK hP 0 rfl rfl 1 (by decide) (hts _ q_138) (fun _ h9 => h9) rfl dX5_faultOfMove_31 ?_
      refine rcVi (As := []) (rest := []) hc k_X5_97 (c_X3_maySwap l D C z3 z4 o_trial_made o_trial_known r_o_trial_list o_trial_stones0 o_trial_stones1  _ rfl) ⟨rfl, rfl, Nat.le_of_ble_eq_true rfl, Nat.le_of_ble_eq_true rfl⟩ (hP.sub [3] rfl) hK (q0 := 0) rfl rfl rfl hl rfl rfl (Nat.le_of_ble_eq_true rfl) ⟨Nat.zero_le _, Nat.zero_le _⟩ dX5_faultOfMove_34 ?_
      refine lv_if_eq (tgt := 45) hx hb dX5_faultOfMove_37 (by decide) (fun c14 => ?_) (fun c14 => ?_)
      · have hf := if_t hf c14
        refine lv_iload_n hx hb dX5_faultOfMove_45 rfl (lv_at hl 2 rfl) ?_
        exact rRi hc (Option.some.inj hf) dX5_faultOfMove_46
      · have hf := if_f hf c14
        refine lv_bipush (v := (-15 : Int32)) hx hb dX5_faultOfMove_40 (by decide) ?_
        refine lv_goto (tgt := 46) hx hb dX5_faultOfMove_42 (by decide) ?_
        exact rRi hc (Option.some.inj hf) dX5_faultOfMove_46
  · have hf := if_f hf c2
    refine lv_iload_n hx hb dX5_faultOfMove_23 rfl (lv_at hl 2 rfl) ?_
    exact rRi hc (Option.some.inj hf) dX5_faultOfMove_24
abbrev R_X5_tryText : Room := { frames := 5, cells := 0, slots := 0, locals := 126 }
def m_X5_tryText_c75 (o_game_board_size : Int32) (k18 : Int32 → Int32 → Int32 → Int32 → Int64 → Int64 → (Nat → Int32) → Option (Int32 × Int32 × Int32 × Int64 × Int64 × (Nat → Int32))) (v1 : Int32) (v2 : Int32) (v3 : Int32) (t0 : Int32) (o_trial_made : Int32) (o_trial_known : Int32) (o_trial_stones0 : Int64) (o_trial_stones1 : Int64) (o_trial_list : Nat → Int32) : Option (Int32 × Int32 × Int32 × Int64 × Int64 × (Nat → Int32)) := ((m_X3_add o_trial_made o_trial_known o_trial_stones0 o_trial_stones1 o_trial_list o_game_board_size t0).bind fun u8 => (k18 (v1 + v3) (v2 + (1 : Int32)) u8.1 u8.2.1 u8.2.2.1 u8.2.2.2.1 u8.2.2.2.2))
set_option maxHeartbeats 4000000 in
set_option maxRecDepth 100000 in
theorem w_X5_tryText_c75 {p : Program} {l : Launch} {e : Env} {s : State} {m : MethodId} {args : Array Value} {below : List Frame} {meth : Method} {c : Code} {D : va_G} {C : Nat → ClassId} {A : Nat → Prop} {a0 : Nat} {a1 : Nat} {a2 : Nat} {a3 : Nat} {a4 : Nat} {a5 : Nat} {a6 : Nat} {a7 : Nat} {a8 : Nat} {a9 : Nat} {a10 : Nat} {a11 : Nat} {a12 : Nat} {a13 : Nat} {a14 : Nat} {a15 : Nat} {a16 : Nat} {z0 : Nat} {o_threatCount : Int32} {o_textLength : Int32} {o_game_made : Int32} {o_game_known : Int32} {o_game_stones0 : Int64} {o_game_stones1 : Int64} {o_game_list : Nat → Int32} {o_slots : Nat → Option Nat} {o_paths_layers : Nat → Int64} {o_table_count : Int32} {o_table_wins : Nat → Int64} {r_o_contest_board : Nat} {o_contest_from : Int64} {o_contest_to : Int64} {o_contest_spots : Nat → Int64} {o_contest_memo : Nat → Int64} {o_foundBridges : Nat → Int32} {o_threatPlayers : Nat → Int32} {o_threatRegions : Nat → Int64} {o_text : Nat → Int32} {o_game_board_size : Int32} {o_game_board_cells : Int32} {o_game_board_all : Int64} {o_game_board_upper : Int64} {o_game_board_lower : Int64} {o_game_board_left : Int64} {o_game_board_right : Int64} {o : Int32 × Int32 × Int32 × Int64 × Int64 × (Nat → Int32)} (hc : Cx p s m args meth c yX5_tryText cX5_tryText 5 (some .int)) (hK : va_K D vwCl (TY C) s) (hA : ∀ q : Nat, s.heap.size ≤ q → A q) (hO : va_P D vwCl [cX0 z0 o_game_board_size o_game_board_cells o_game_board_all o_game_board_upper o_game_board_lower o_game_board_left o_game_board_right] s.heap) (hN : ∀ q ∈ [cX0 z0 o_game_board_size o_game_board_cells o_game_board_all o_game_board_upper o_game_board_lower o_game_board_left o_game_board_right], ¬ A q.1) (k18 : Int32 → Int32 → Int32 → Int32 → Int64 → Int64 → (Nat → Int32) → Option (Int32 × Int32 × Int32 × Int64 × Int64 × (Nat → Int32))) (hk18 : ∀ (v1 : Int32) (v2 : Int32) (o_trial_made : Int32) (o_trial_known : Int32) (o_trial_stones0 : Int64) (o_trial_stones1 : Int64) (o_trial_list : Nat → Int32), k18 v1 v2 o_trial_made o_trial_known o_trial_stones0 o_trial_stones1 o_trial_list = some o → ∀ (H : Heap) (locs : List Loc), va_P D vwCl (wX5 C a0 a1 a2 a3 a4 a5 a6 a7 a8 a9 a10 a11 a12 a13 a14 a15 a16 o_threatCount o_textLength z0 o_game_made o_game_known o_game_stones0 o_game_stones1 o_game_list z0 o_trial_made o_trial_known o_trial_stones0 o_trial_stones1 o_trial_list o_slots o_paths_layers o_table_count o_table_wins r_o_contest_board o_contest_from o_contest_to o_contest_spots o_contest_memo o_foundBridges o_threatPlayers o_threatRegions o_text) H → va_D A (wX5 C a0 a1 a2 a3 a4 a5 a6 a7 a8 a9 a10 a11 a12 a13 a14 a15 a16 o_threatCount o_textLength z0 o_game_made o_game_known o_game_stones0 o_game_stones1 o_game_list z0 o_trial_made o_trial_known o_trial_stones0 o_trial_stones1 o_trial_list o_slots o_paths_layers o_table_count o_table_wins r_o_contest_board o_contest_from o_contest_to o_contest_spots o_contest_memo o_foundBridges o_threatPlayers o_threatRegions o_text) → va_S A s.heap H locs → ∀ (ls : Array Slot), lv_has ls 5 [(0, .ref a0), (1, .int v1), (2, .int v2)] → W p l e R_X5_tryText s m args below meth c H locs 0 0 (MQ below (QWi D o.1 (wX5 C a0 a1 a2 a3 a4 a5 a6 a7 a8 a9 a10 a11 a12 a13 a14 a15 a16 o_threatCount o_textLength z0 o_game_made o_game_known o_game_stones0 o_game_stones1 o_game_list z0 o.2.1 o.2.2.1 o.2.2.2.1 o.2.2.2.2.1 o.2.2.2.2.2 o_slots o_paths_layers o_table_count o_table_wins r_o_contest_board o_contest_from o_contest_to o_contest_spots o_contest_memo o_foundBridges o_threatPlayers o_threatRegions o_text) A) args s 0 0 A) (F0 m 18 ls [])) : ∀ (v1 : Int32) (v2 : Int32) (v3 : Int32) (t0 : Int32) (o_trial_made : Int32) (o_trial_known : Int32) (o_trial_stones0 : Int64) (o_trial_stones1 : Int64) (o_trial_list : Nat → Int32), m_X5_tryText_c75 o_game_board_size k18 v1 v2 v3 t0 o_trial_made o_trial_known o_trial_stones0 o_trial_stones1 o_trial_list = some o → ∀ (H : Heap) (locs : List Loc), va_P D vwCl (wX5 C a0 a1 a2 a3 a4 a5 a6 a7 a8 a9 a10 a11 a12 a13 a14 a15 a16 o_threatCount o_textLength z0 o_game_made o_game_known o_game_stones0 o_game_stones1 o_game_list z0 o_trial_made o_trial_known o_trial_stones0 o_trial_stones1 o_trial_list o_slots o_paths_layers o_table_count o_table_wins r_o_contest_board o_contest_from o_contest_to o_contest_spots o_contest_memo o_foundBridges o_threatPlayers o_threatRegions o_text) H → va_D A (wX5 C a0 a1 a2 a3 a4 a5 a6 a7 a8 a9 a10 a11 a12 a13 a14 a15 a16 o_threatCount o_textLength z0 o_game_made o_game_known o_game_stones0 o_game_stones1 o_game_list z0 o_trial_made o_trial_known o_trial_stones0 o_trial_stones1 o_trial_list o_slots o_paths_layers o_table_count o_table_wins r_o_contest_board o_contest_from o_contest_to o_contest_spots o_contest_memo o_foundBridges o_threatPlayers o_threatRegions o_text) → va_S A s.heap H locs → ∀ (ls : Array Slot), lv_has ls 5 [(0, .ref a0), (1, .int v1), (2, .int v2), (3, .int v3)] → W p l e R_X5_tryText s m args below meth c H locs 0 0 (MQ below (QWi D o.1 (wX5 C a0 a1 a2 a3 a4 a5 a6 a7 a8 a9 a10 a11 a12 a13 a14 a15 a16 o_threatCount o_textLength z0 o_game_made o_game_known o_game_stones0 o_game_stones1 o_game_list z0 o.2.1 o.2.2.1 o.2.2.2.1 o.2.2.2.2.1 o.2.2.2.2.2 o_slots o_paths_layers o_table_count o_table_wins r_o_contest_board o_contest_from o_contest_to o_contest_spots o_contest_memo o_foundBridges o_threatPlayers o_threatRegions o_text) A) args s 0 0 A) (F0 m 75 ls [.int t0, .ref a3]) := by
  have hx := hc.1
  have hb := hc.2.1
  have hown := hc.2.2.2.2.1
  have hts := hc.2.2.2.2.2.1
  intro v1 v2 v3 t0 o_trial_made o_trial_known o_trial_stones0 o_trial_stones1 o_trial_list hf H locs hP hD hS ls hl
  obtain ⟨u8, hu8, hf⟩ := bind_some hf
  refine wcVv (A := A) (wc := [cX3 a3 z0 o_trial_made o_trial_known a4 o_trial_stones0 o_trial_stones1, aI C a4 50 o_trial_list]) (w1 := [cX3 a3 z0 u8.1 u8.2.1 a4 u8.2.2.1 u8.2.2.2.1, aI C a4 50 u8.2.2.2.2]) (rc := [cX0 z0 o_game_board_size o_game_board_cells o_game_board_all o_game_board_upper o_game_board_lower o_game_board_left o_game_board_right]) (As := [.int t0]) (rest := []) hc k_X5_91 (c_X3_add l D C _ a3 a4 z0 o_trial_made o_trial_known o_trial_stones0 o_trial_stones1 o_trial_list o_game_board_size o_game_board_cells o_game_board_all o_game_board_upper o_game_board_lower o_game_board_left o_game_board_right t0  _ hu8) ⟨rfl, rfl, Nat.le_of_ble_eq_true rfl, Nat.le_of_ble_eq_true rfl⟩ hP hD hS hA hK [3, 4] [0, 1, 2, 5, 6, 7, 8, 9, 10, 11, 12, 13, 14, 15, 16] rfl rfl rfl rfl (by decide) ((hP.app (ro_S hO hN hS)).sub [17] rfl) (Ap_cons (fun h9 => hN _ (List.mem_of_getElem? (i := 0) rfl) (va_free (wc := [cX3 a3 z0 o_trial_made o_trial_known a4 o_trial_stones0 o_trial_stones1, aI C a4 50 o_trial_list]) hD hS hA [3, 4] rfl _ h9)) Ap_nil) (q0 := 0) rfl rfl rfl hl rfl rfl (Nat.le_of_ble_eq_true rfl) ⟨Nat.zero_le _, Nat.zero_le _⟩ dX5_tryText_75 (fun H locs hP hD hS => ?_)
  have hP : va_P D vwCl (wX5 C a0 a1 a2 a3 a4 a5 a6 a7 a8 a9 a10 a11 a12 a13 a14 a15 a16 o_threatCount o_textLength z0 o_game_made o_game_known o_game_stones0 o_game_stones1 o_game_list z0 u8.1 u8.2.1 u8.2.2.1 u8.2.2.2.1 u8.2.2.2.2 o_slots o_paths_layers o_table_count o_table_wins r_o_contest_board o_contest_from o_contest_to o_contest_spots o_contest_memo o_foundBridges o_threatPlayers o_threatRegions o_text) H := hP.sub [0, 1, 2, 15, 16, 3, 4, 5, 6, 7, 8, 9, 10, 11, 12, 13, 14] rfl
  have hD : va_D A (wX5 C a0 a1 a2 a3 a4 a5 a6 a7 a8 a9 a10 a11 a12 a13 a14 a15 a16 o_threatCount o_textLength z0 o_game_made o_game_known o_game_stones0 o_game_stones1 o_game_list z0 u8.1 u8.2.1 u8.2.2.1 u8.2.2.2.1 u8.2.2.2.2 o_slots o_paths_layers o_table_count o_table_wins r_o_contest_board o_contest_from o_contest_to o_contest_spots o_contest_memo o_foundBridges o_threatPlayers o_threatRegions o_text) := hD.sub [0, 1, 2, 15, 16, 3, 4, 5, 6, 7, 8, 9, 10, 11, 12, 13, 14] rfl rfl
  refine lv_iload_n hx hb dX5_tryText_78 rfl (lv_at hl 1 rfl) ?_
  refine lv_iload_n hx hb dX5_tryText_79 rfl (lv_at hl 3 rfl) ?_
  refine lv_iadd hx hb dX5_tryText_80 ?_
  refine lv_istore_n (lv' := [(1, .int (v1 + v3)), (0, .ref a0), (2, .int v2), (3, .int v3)]) hx hb dX5_tryText_81 rfl hl (by decide) rfl (fun ls hl => ?_)
  refine lv_iinc (v := (v2 + (1 : Int32))) (lv' := [(2, .int (v2 + (1 : Int32))), (1, .int (v1 + v3)), (0, .ref a0), (3, .int v3)]) hx hb dX5_tryText_82 hl (k := 2) rfl rfl (by decide) rfl (fun ls hl => ?_)
  refine lv_goto (tgt := 18) hx hb dX5_tryText_85 (by decide) ?_
  exact hk18 (v1 + v3) (v2 + (1 : Int32)) u8.1 u8.2.1 u8.2.2.1 u8.2.2.2.1 u8.2.2.2.2 hf _ _ hP hD hS ls (lv_sub hl [2, 1, 0] rfl)
def m_X5_tryText_c18 (o_textLength : Int32) (o_text : Nat → Int32) (o_game_board_size : Int32) (o_game_board_cells : Int32) (o_game_board_all : Int64) (o_game_board_upper : Int64) (o_game_board_lower : Int64) (o_game_board_left : Int64) (o_game_board_right : Int64)  : Nat → Int32 → Int32 → Int32 → Int32 → Int64 → Int64 → (Nat → Int32) → Option (Int32 × Int32 × Int32 × Int64 × Int64 × (Nat → Int32))
  | 0, _, _, _, _, _, _, _ => none
  | n + 1, v1, v2, o_trial_made, o_trial_known, o_trial_stones0, o_trial_stones1, o_trial_list => (if (100 : Int32) ≤ v2 then some ((-15 : Int32), o_trial_made, o_trial_known, o_trial_stones0, o_trial_stones1, o_trial_list) else (if o_textLength ≤ v1 then some ((-15 : Int32), o_trial_made, o_trial_known, o_trial_stones0, o_trial_stones1, o_trial_list) else ((m_X5_moveLength o_textLength o_text v1).bind fun u3 => ((m_X5_faultOfMove o_textLength o_game_board_size o_trial_made o_trial_stones0 o_trial_stones1 o_game_board_size o_game_board_cells o_game_board_all o_game_board_upper o_game_board_lower o_game_board_left o_game_board_right o_text v1 u3).bind fun u4 => (if u4 = (-15 : Int32) then (if u3 = (1 : Int32) then (m_X5_tryText_c75 o_game_board_size (m_X5_tryText_c18 o_textLength o_text o_game_board_size o_game_board_cells o_game_board_all o_game_board_upper o_game_board_lower o_game_board_left o_game_board_right  n) v1 v2 u3 (-16 : Int32) o_trial_made o_trial_known o_trial_stones0 o_trial_stones1 o_trial_list) else ((m_X5_cellAt o_textLength o_text o_game_board_size v1).bind fun u7 => (m_X5_tryText_c75 o_game_board_size (m_X5_tryText_c18 o_textLength o_text o_game_board_size o_game_board_cells o_game_board_all o_game_board_upper o_game_board_lower o_game_board_left o_game_board_right  n) v1 v2 u3 u7 o_trial_made o_trial_known o_trial_stones0 o_trial_stones1 o_trial_list))) else some (u4, o_trial_made, o_trial_known, o_trial_stones0, o_trial_stones1, o_trial_list))))))
set_option maxHeartbeats 4000000 in
set_option maxRecDepth 100000 in
theorem w_X5_tryText_c18 {p : Program} {l : Launch} {e : Env} {s : State} {m : MethodId} {args : Array Value} {below : List Frame} {meth : Method} {c : Code} {D : va_G} {C : Nat → ClassId} {A : Nat → Prop} {a0 : Nat} {a1 : Nat} {a2 : Nat} {a3 : Nat} {a4 : Nat} {a5 : Nat} {a6 : Nat} {a7 : Nat} {a8 : Nat} {a9 : Nat} {a10 : Nat} {a11 : Nat} {a12 : Nat} {a13 : Nat} {a14 : Nat} {a15 : Nat} {a16 : Nat} {z0 : Nat} {o_threatCount : Int32} {o_textLength : Int32} {o_game_made : Int32} {o_game_known : Int32} {o_game_stones0 : Int64} {o_game_stones1 : Int64} {o_game_list : Nat → Int32} {o_slots : Nat → Option Nat} {o_paths_layers : Nat → Int64} {o_table_count : Int32} {o_table_wins : Nat → Int64} {r_o_contest_board : Nat} {o_contest_from : Int64} {o_contest_to : Int64} {o_contest_spots : Nat → Int64} {o_contest_memo : Nat → Int64} {o_foundBridges : Nat → Int32} {o_threatPlayers : Nat → Int32} {o_threatRegions : Nat → Int64} {o_text : Nat → Int32} {o_game_board_size : Int32} {o_game_board_cells : Int32} {o_game_board_all : Int64} {o_game_board_upper : Int64} {o_game_board_lower : Int64} {o_game_board_left : Int64} {o_game_board_right : Int64} {o : Int32 × Int32 × Int32 × Int64 × Int64 × (Nat → Int32)} (hc : Cx p s m args meth c yX5_tryText cX5_tryText 5 (some .int)) (hK : va_K D vwCl (TY C) s) (hA : ∀ q : Nat, s.heap.size ≤ q → A q) (hO : va_P D vwCl [cX0 z0 o_game_board_size o_game_board_cells o_game_board_all o_game_board_upper o_game_board_lower o_game_board_left o_game_board_right] s.heap) (hN : ∀ q ∈ [cX0 z0 o_game_board_size o_game_board_cells o_game_board_all o_game_board_upper o_game_board_lower o_game_board_left o_game_board_right], ¬ A q.1) : ∀ (n : Nat), ∀ (v1 : Int32) (v2 : Int32) (o_trial_made : Int32) (o_trial_known : Int32) (o_trial_stones0 : Int64) (o_trial_stones1 : Int64) (o_trial_list : Nat → Int32), m_X5_tryText_c18 o_textLength o_text o_game_board_size o_game_board_cells o_game_board_all o_game_board_upper o_game_board_lower o_game_board_left o_game_board_right  n v1 v2 o_trial_made o_trial_known o_trial_stones0 o_trial_stones1 o_trial_list = some o → ∀ (H : Heap) (locs : List Loc), va_P D vwCl (wX5 C a0 a1 a2 a3 a4 a5 a6 a7 a8 a9 a10 a11 a12 a13 a14 a15 a16 o_threatCount o_textLength z0 o_game_made o_game_known o_game_stones0 o_game_stones1 o_game_list z0 o_trial_made o_trial_known o_trial_stones0 o_trial_stones1 o_trial_list o_slots o_paths_layers o_table_count o_table_wins r_o_contest_board o_contest_from o_contest_to o_contest_spots o_contest_memo o_foundBridges o_threatPlayers o_threatRegions o_text) H → va_D A (wX5 C a0 a1 a2 a3 a4 a5 a6 a7 a8 a9 a10 a11 a12 a13 a14 a15 a16 o_threatCount o_textLength z0 o_game_made o_game_known o_game_stones0 o_game_stones1 o_game_list z0 o_trial_made o_trial_known o_trial_stones0 o_trial_stones1 o_trial_list o_slots o_paths_layers o_table_count o_table_wins r_o_contest_board o_contest_from o_contest_to o_contest_spots o_contest_memo o_foundBridges o_threatPlayers o_threatRegions o_text) → va_S A s.heap H locs → ∀ (ls : Array Slot), lv_has ls 5 [(0, .ref a0), (1, .int v1), (2, .int v2)] → W p l e R_X5_tryText s m args below meth c H locs 0 0 (MQ below (QWi D o.1 (wX5 C a0 a1 a2 a3 a4 a5 a6 a7 a8 a9 a10 a11 a12 a13 a14 a15 a16 o_threatCount o_textLength z0 o_game_made o_game_known o_game_stones0 o_game_stones1 o_game_list z0 o.2.1 o.2.2.1 o.2.2.2.1 o.2.2.2.2.1 o.2.2.2.2.2 o_slots o_paths_layers o_table_count o_table_wins r_o_contest_board o_contest_from o_contest_to o_contest_spots o_contest_memo o_foundBridges o_threatPlayers o_threatRegions o_text) A) args s 0 0 A) (F0 m 18 ls []) := by
  have hx := hc.1
  have hb := hc.2.1
  have hown := hc.2.2.2.2.1
  have hts := hc.2.2.2.2.2.1
  intro n
  induction n with
  | zero =>
    intro v1 v2 o_trial_made o_trial_known o_trial_stones0 o_trial_stones1 o_trial_list hf
    exact no_some hf
  | succ n ih =>
    intro v1 v2 o_trial_made o_trial_known o_trial_stones0 o_trial_stones1 o_trial_list hf H locs hP hD hS ls hl
    refine lv_iload_n hx hb dX5_tryText_18 rfl (lv_at hl 2 rfl) ?_
    refine lv_bipush (v := (100 : Int32)) hx hb dX5_tryText_19 (by decide) ?_
    refine lv_icmp_ge (tgt := 88) hx hb dX5_tryText_21 (by decide) (fun c1 => ?_) (fun c1 => ?_)
    · have hf := if_t hf c1
      refine lv_bipush (v := (-15 : Int32)) hx hb dX5_tryText_88 (by decide) ?_
      have hf := Option.some.inj hf
      subst hf
      exact rWi hc rfl hP hD hS dX5_tryText_90
    · have hf := if_f hf c1
      refine lv_iload_n hx hb dX5_tryText_24 rfl (lv_at hl 1 rfl) ?_
      refine lv_aload_n hx hb dX5_tryText_25 rfl (lv_at hl 0 rfl) ?_
      refine va_get (D := D) (ci := 5) (v := .int o_textLength) (C := RX5) (T := TX5) (N := 12) hx hb hts inX5 hown hK hP 0 rfl rfl 11 (by decide) (hts _ q_148) (fun _ h9 => h9) rfl dX5_tryText_26 ?_
      refine lv_icmp_ge (tgt := 88) hx hb dX5_tryText_29 (by decide) (fun c2 => ?_) (fun c2 => ?_)
      · have hf := if_t hf c2
        refine lv_bipush (v := (-15 : Int32)) hx hb dX5_tryText_88 (by decide) ?_
        have hf := Option.some.inj hf
        subst hf
        exact rWi hc rfl hP hD hS dX5_tryText_90
      · have hf := if_f hf c2
        refine lv_aload_n hx hb dX5_tryText_32 rfl (lv_at hl 0 rfl) ?_
        refine lv_iload_n hx hb dX5_tryText_33 rfl (lv_at hl 1 rfl) ?_
        obtain ⟨u3, hu3, hf⟩ := bind_some hf
        refine rcVi (As := [.int v1]) (rest := []) hc k_X5_317 (c_X5_moveLength l D C a0 a16 a1 a3 a5 a6 a8 a10 a13 a14 a15 o_threatCount o_textLength o_text v1  _ hu3) ⟨rfl, rfl, Nat.le_of_ble_eq_true rfl, Nat.le_of_ble_eq_true rfl⟩ ((hP.app (ro_S hO hN hS)).sub [0, 16] rfl) hK (q0 := 0) rfl rfl rfl hl rfl rfl (Nat.le_of_ble_eq_true rfl) ⟨Nat.zero_le _, Nat.zero_le _⟩ dX5_tryText_34 ?_
        refine lv_istore_n (lv' := [(3, .int u3), (0, .ref a0), (1, .int v1), (2, .int v2)]) hx hb dX5_tryText_37 rfl hl (by decide) rfl (fun ls hl => ?_)
        refine lv_aload_n hx hb dX5_tryText_38 rfl (lv_at hl 1 rfl) ?_
        refine lv_iload_n hx hb dX5_tryText_39 rfl (lv_at hl 2 rfl) ?_
        refine lv_iload_n hx hb dX5_tryText_40 rfl (lv_at hl 0 rfl) ?_
        obtain ⟨u4, hu4, hf⟩ := bind_some hf
        refine rcVi (As := [.int v1, .int u3]) (rest := []) hc k_X5_320 (c_X5_faultOfMove l D C a0 a1 z0 a3 z0 a16 a5 a6 a8 a10 a13 a14 a15 o_threatCount o_textLength o_game_made o_game_known a2 o_game_stones0 o_game_stones1 o_game_board_size o_game_board_cells o_game_board_all o_game_board_upper o_game_board_lower o_game_board_left o_game_board_right o_trial_made o_trial_known a4 o_trial_stones0 o_trial_stones1 o_game_board_size o_game_board_cells o_game_board_all o_game_board_upper o_game_board_lower o_game_board_left o_game_board_right o_text v1 u3  _ hu4) ⟨rfl, rfl, Nat.le_of_ble_eq_true rfl, Nat.le_of_ble_eq_true rfl⟩ ((hP.app (ro_S hO hN hS)).sub [0, 1, 17, 3, 17, 16] rfl) hK (q0 := 0) rfl rfl rfl hl rfl rfl (Nat.le_of_ble_eq_true rfl) ⟨Nat.zero_le _, Nat.zero_le _⟩ dX5_tryText_41 ?_
        refine lv_istore (lv' := [(4, .int u4), (3, .int u3), (0, .ref a0), (1, .int v1), (2, .int v2)]) hx hb dX5_tryText_44 hl (by decide) rfl (fun ls hl => ?_)
        refine lv_iload hx hb dX5_tryText_46 (lv_at hl 0 rfl) ?_
        refine lv_bipush (v := (-15 : Int32)) hx hb dX5_tryText_48 (by decide) ?_
        refine lv_icmp_eq (tgt := 56) hx hb dX5_tryText_50 (by decide) (fun c5 => ?_) (fun c5 => ?_)
        · have hf := if_t hf c5
          refine lv_aload_n hx hb dX5_tryText_56 rfl (lv_at hl 2 rfl) ?_
          refine va_get (D := D) (ci := 5) (v := .ref a3) (C := RX5) (T := TX5) (N := 12) hx hb hts inX5 hown hK hP 0 rfl rfl 1 (by decide) (hts _ q_138) (fun _ h9 => h9) rfl dX5_tryText_57 ?_
          refine lv_iload_n hx hb dX5_tryText_60 rfl (lv_at hl 1 rfl) ?_
          refine lv_iconst (v := (1 : Int32)) hx hb dX5_tryText_61 (by decide) ?_
          refine lv_icmp_ne (tgt := 70) hx hb dX5_tryText_62 (by decide) (fun c6 => ?_) (fun c6 => ?_)
          · have hf := if_f hf c6
            refine lv_aload_n hx hb dX5_tryText_70 rfl (lv_at hl 2 rfl) ?_
            refine lv_iload_n hx hb dX5_tryText_71 rfl (lv_at hl 3 rfl) ?_
            obtain ⟨u7, hu7, hf⟩ := bind_some hf
            refine rcVi (As := [.int v1]) (rest := [.ref a3]) hc k_X5_324 (c_X5_cellAt l D C a0 a16 a1 z0 a3 a5 a6 a8 a10 a13 a14 a15 o_threatCount o_textLength o_text o_game_made o_game_known a2 o_game_stones0 o_game_stones1 o_game_board_size o_game_board_cells o_game_board_all o_game_board_upper o_game_board_lower o_game_board_left o_game_board_right v1  _ hu7) ⟨rfl, rfl, Nat.le_of_ble_eq_true rfl, Nat.le_of_ble_eq_true rfl⟩ ((hP.app (ro_S hO hN hS)).sub [0, 16, 1, 17] rfl) hK (q0 := 0) rfl rfl rfl hl rfl rfl (Nat.le_of_ble_eq_true rfl) ⟨Nat.zero_le _, Nat.zero_le _⟩ dX5_tryText_72 ?_
            exact w_X5_tryText_c75 hc hK hA hO hN (m_X5_tryText_c18 o_textLength o_text o_game_board_size o_game_board_cells o_game_board_all o_game_board_upper o_game_board_lower o_game_board_left o_game_board_right  n) ih v1 v2 u3 u7 o_trial_made o_trial_known o_trial_stones0 o_trial_stones1 o_trial_list hf _ _ hP hD hS ls (lv_sub hl [2, 3, 4, 1] rfl)
          · have hf := if_t hf c6
            refine lv_bipush (v := (-16 : Int32)) hx hb dX5_tryText_65 (by decide) ?_
            refine lv_goto (tgt := 75) hx hb dX5_tryText_67 (by decide) ?_
            exact w_X5_tryText_c75 hc hK hA hO hN (m_X5_tryText_c18 o_textLength o_text o_game_board_size o_game_board_cells o_game_board_all o_game_board_upper o_game_board_lower o_game_board_left o_game_board_right  n) ih v1 v2 u3 (-16 : Int32) o_trial_made o_trial_known o_trial_stones0 o_trial_stones1 o_trial_list hf _ _ hP hD hS ls (lv_sub hl [2, 3, 4, 1] rfl)
        · have hf := if_f hf c5
          refine lv_iload hx hb dX5_tryText_53 (lv_at hl 0 rfl) ?_
          have hf := Option.some.inj hf
          subst hf
          exact rWi hc rfl hP hD hS dX5_tryText_55
def m_X5_tryText (o_textLength : Int32) (o_trial_list : Nat → Int32) (o_text : Nat → Int32) (o_game_board_size : Int32) (o_game_board_cells : Int32) (o_game_board_all : Int64) (o_game_board_upper : Int64) (o_game_board_lower : Int64) (o_game_board_left : Int64) (o_game_board_right : Int64) : Option (Int32 × Int32 × Int32 × Int64 × Int64 × (Nat → Int32)) := (m_X5_tryText_c18 o_textLength o_text o_game_board_size o_game_board_cells o_game_board_all o_game_board_upper o_game_board_lower o_game_board_left o_game_board_right FU (0 : Int32) (0 : Int32) m_X3_start.1 m_X3_start.2.1 m_X3_start.2.2.1 m_X3_start.2.2.2 o_trial_list)
set_option maxHeartbeats 4000000 in
set_option maxRecDepth 100000 in
theorem c_X5_tryText (l : Launch) (D : va_G) (C : Nat → ClassId) (sz : Nat) (a0 : Nat) (a1 : Nat) (a2 : Nat) (a3 : Nat) (a4 : Nat) (a5 : Nat) (a6 : Nat) (a7 : Nat) (a8 : Nat) (a9 : Nat) (a10 : Nat) (a11 : Nat) (a12 : Nat) (a13 : Nat) (a14 : Nat) (a15 : Nat) (a16 : Nat) (z0 : Nat) (o_threatCount : Int32) (o_textLength : Int32) (o_game_made : Int32) (o_game_known : Int32) (o_game_stones0 : Int64) (o_game_stones1 : Int64) (o_game_list : Nat → Int32) (r_o_trial_board : Nat) (o_trial_made : Int32) (o_trial_known : Int32) (o_trial_stones0 : Int64) (o_trial_stones1 : Int64) (o_trial_list : Nat → Int32) (o_slots : Nat → Option Nat) (o_paths_layers : Nat → Int64) (o_table_count : Int32) (o_table_wins : Nat → Int64) (r_o_contest_board : Nat) (o_contest_from : Int64) (o_contest_to : Int64) (o_contest_spots : Nat → Int64) (o_contest_memo : Nat → Int64) (o_foundBridges : Nat → Int32) (o_threatPlayers : Nat → Int32) (o_threatRegions : Nat → Int64) (o_text : Nat → Int32) (o_game_board_size : Int32) (o_game_board_cells : Int32) (o_game_board_all : Int64) (o_game_board_upper : Int64) (o_game_board_lower : Int64) (o_game_board_left : Int64) (o_game_board_right : Int64) (o : Int32 × Int32 × Int32 × Int64 × Int64 × (Nat → Int32)) (hf : m_X5_tryText o_textLength o_trial_list o_text o_game_board_size o_game_board_cells o_game_board_all o_game_board_upper o_game_board_lower o_game_board_left o_game_board_right = some o) : Met l yX5_tryText (wl yX5_tryText cX5_tryText 5 (some .int)) R_X5_tryText (PW [.ref a0] D C sz (wX5 C a0 a1 a2 a3 a4 a5 a6 a7 a8 a9 a10 a11 a12 a13 a14 a15 a16 o_threatCount o_textLength z0 o_game_made o_game_known o_game_stones0 o_game_stones1 o_game_list r_o_trial_board o_trial_made o_trial_known o_trial_stones0 o_trial_stones1 o_trial_list o_slots o_paths_layers o_table_count o_table_wins r_o_contest_board o_contest_from o_contest_to o_contest_spots o_contest_memo o_foundBridges o_threatPlayers o_threatRegions o_text) [cX0 z0 o_game_board_size o_game_board_cells o_game_board_all o_game_board_upper o_game_board_lower o_game_board_left o_game_board_right]) (QWi D o.1 (wX5 C a0 a1 a2 a3 a4 a5 a6 a7 a8 a9 a10 a11 a12 a13 a14 a15 a16 o_threatCount o_textLength z0 o_game_made o_game_known o_game_stones0 o_game_stones1 o_game_list z0 o.2.1 o.2.2.1 o.2.2.2.1 o.2.2.2.2.1 o.2.2.2.2.2 o_slots o_paths_layers o_table_count o_table_wins r_o_contest_board o_contest_from o_contest_to o_contest_spots o_contest_memo o_foundBridges o_threatPlayers o_threatRegions o_text) (va_A (wX5 C a0 a1 a2 a3 a4 a5 a6 a7 a8 a9 a10 a11 a12 a13 a14 a15 a16 o_threatCount o_textLength z0 o_game_made o_game_known o_game_stones0 o_game_stones1 o_game_list r_o_trial_board o_trial_made o_trial_known o_trial_stones0 o_trial_stones1 o_trial_list o_slots o_paths_layers o_table_count o_table_wins r_o_contest_board o_contest_from o_contest_to o_contest_spots o_contest_memo o_foundBridges o_threatPlayers o_threatRegions o_text) sz)) 0 0 (va_A (wX5 C a0 a1 a2 a3 a4 a5 a6 a7 a8 a9 a10 a11 a12 a13 a14 a15 a16 o_threatCount o_textLength z0 o_game_made o_game_known o_game_stones0 o_game_stones1 o_game_list r_o_trial_board o_trial_made o_trial_known o_trial_stones0 o_trial_stones1 o_trial_list o_slots o_paths_layers o_table_count o_table_wins r_o_contest_board o_contest_from o_contest_to o_contest_spots o_contest_memo o_foundBridges o_threatPlayers o_threatRegions o_text) sz) := by
  refine Met_ofC (by decide) ?_
  intro p e s m args below meth c hc hv
  obtain ⟨rfl, hsz, hP, hK, hD0, hO, hN0⟩ := hv
  subst hsz
  have hD := hD0.self (sz := s.heap.size)
  have hN : ∀ q ∈ [cX0 z0 o_game_board_size o_game_board_cells o_game_board_all o_game_board_upper o_game_board_lower o_game_board_left o_game_board_right], ¬ va_A (wX5 C a0 a1 a2 a3 a4 a5 a6 a7 a8 a9 a10 a11 a12 a13 a14 a15 a16 o_threatCount o_textLength z0 o_game_made o_game_known o_game_stones0 o_game_stones1 o_game_list r_o_trial_board o_trial_made o_trial_known o_trial_stones0 o_trial_stones1 o_trial_list o_slots o_paths_layers o_table_count o_table_wins r_o_contest_board o_contest_from o_contest_to o_contest_spots o_contest_memo o_foundBridges o_threatPlayers o_threatRegions o_text) s.heap.size q.1 := hN0
  generalize hAe : va_A (wX5 C a0 a1 a2 a3 a4 a5 a6 a7 a8 a9 a10 a11 a12 a13 a14 a15 a16 o_threatCount o_textLength z0 o_game_made o_game_known o_game_stones0 o_game_stones1 o_game_list r_o_trial_board o_trial_made o_trial_known o_trial_stones0 o_trial_stones1 o_trial_list o_slots o_paths_layers o_table_count o_table_wins r_o_contest_board o_contest_from o_contest_to o_contest_spots o_contest_memo o_foundBridges o_threatPlayers o_threatRegions o_text) s.heap.size = A at hD hN ⊢
  have hA : ∀ q : Nat, s.heap.size ≤ q → A q := fun q h => by rw [← hAe]; exact Or.inr h
  have hS : va_S A s.heap s.heap [] := va_S.rf
  have hx := hc.1
  have hb := hc.2.1
  have hown := hc.2.2.2.2.1
  have hts := hc.2.2.2.2.2.1
  refine en_F rfl (fun ls hl => ?_)
  have hl : lv_has ls 5 [(0, .ref a0)] := hl
  refine lv_aload_n hx hb dX5_tryText_0 rfl (lv_at hl 0 rfl) ?_
  refine va_get (D := D) (ci := 5) (v := .ref a3) (C := RX5) (T := TX5) (N := 12) hx hb hts inX5 hown hK hP 0 rfl rfl 1 (by decide) (hts _ q_138) (fun _ h9 => h9) rfl dX5_tryText_1 ?_
  refine lv_aload_n hx hb dX5_tryText_4 rfl (lv_at hl 0 rfl) ?_
  refine va_get (D := D) (ci := 5) (v := .ref a1) (C := RX5) (T := TX5) (N := 12) hx hb hts inX5 hown hK hP 0 rfl rfl 0 (by decide) (hts _ q_137) (fun _ h9 => h9) rfl dX5_tryText_5 ?_
  refine va_get (D := D) (ci := 3) (v := .ref z0) (C := RX3) (T := TX3) (N := 6) hx hb hts inX3 hown hK hP 1 rfl rfl 0 (by decide) (hts _ q_94) (fun _ h9 => h9) rfl dX5_tryText_8 ?_
  refine wcVv (A := A) (wc := [cX3 a3 r_o_trial_board o_trial_made o_trial_known a4 o_trial_stones0 o_trial_stones1, aI C a4 50 o_trial_list]) (w1 := [cX3 a3 z0 m_X3_start.1 m_X3_start.2.1 a4 m_X3_start.2.2.1 m_X3_start.2.2.2, aI C a4 50 o_trial_list]) (rc := []) (As := [.ref z0]) (rest := []) hc k_X5_74 (c_X3_start l D C _ a3 a4 r_o_trial_board o_trial_made o_trial_known o_trial_stones0 o_trial_stones1 o_trial_list z0  _ rfl) ⟨rfl, rfl, Nat.le_of_ble_eq_true rfl, Nat.le_of_ble_eq_true rfl⟩ hP hD hS hA hK [3, 4] [0, 1, 2, 5, 6, 7, 8, 9, 10, 11, 12, 13, 14, 15, 16] rfl rfl rfl rfl (by decide) (hP.sub [] rfl) Ap_nil (q0 := 0) rfl rfl rfl hl rfl rfl (Nat.le_of_ble_eq_true rfl) ⟨Nat.zero_le _, Nat.zero_le _⟩ dX5_tryText_11 (fun H locs hP hD hS => ?_)
  have hP : va_P D vwCl (wX5 C a0 a1 a2 a3 a4 a5 a6 a7 a8 a9 a10 a11 a12 a13 a14 a15 a16 o_threatCount o_textLength z0 o_game_made o_game_known o_game_stones0 o_game_stones1 o_game_list z0 m_X3_start.1 m_X3_start.2.1 m_X3_start.2.2.1 m_X3_start.2.2.2 o_trial_list o_slots o_paths_layers o_table_count o_table_wins r_o_contest_board o_contest_from o_contest_to o_contest_spots o_contest_memo o_foundBridges o_threatPlayers o_threatRegions o_text) H := hP.sub [0, 1, 2, 15, 16, 3, 4, 5, 6, 7, 8, 9, 10, 11, 12, 13, 14] rfl
  have hD : va_D A (wX5 C a0 a1 a2 a3 a4 a5 a6 a7 a8 a9 a10 a11 a12 a13 a14 a15 a16 o_threatCount o_textLength z0 o_game_made o_game_known o_game_stones0 o_game_stones1 o_game_list z0 m_X3_start.1 m_X3_start.2.1 m_X3_start.2.2.1 m_X3_start.2.2.2 o_trial_list o_slots o_paths_layers o_table_count o_table_wins r_o_contest_board o_contest_from o_contest_to o_contest_spots o_contest_memo o_foundBridges o_threatPlayers o_threatRegions o_text) := hD.sub [0, 1, 2, 15, 16, 3, 4, 5, 6, 7, 8, 9, 10, 11, 12, 13, 14] rfl rfl
  refine lv_iconst (v := (0 : Int32)) hx hb dX5_tryText_14 (by decide) ?_
  refine lv_istore_n (lv' := [(1, .int (0 : Int32)), (0, .ref a0)]) hx hb dX5_tryText_15 rfl hl (by decide) rfl (fun ls hl => ?_)
  refine lv_iconst (v := (0 : Int32)) hx hb dX5_tryText_16 (by decide) ?_
  refine lv_istore_n (lv' := [(2, .int (0 : Int32)), (1, .int (0 : Int32)), (0, .ref a0)]) hx hb dX5_tryText_17 rfl hl (by decide) rfl (fun ls hl => ?_)
  exact w_X5_tryText_c18 hc hK hA hO hN  FU (0 : Int32) (0 : Int32) m_X3_start.1 m_X3_start.2.1 m_X3_start.2.2.1 m_X3_start.2.2.2 o_trial_list hf _ _ hP hD hS ls (lv_sub hl [2, 1, 0] rfl)
abbrev R_X5_faultPosition : Room := { frames := 6, cells := 0, slots := 0, locals := 150 }
def m_X5_faultPosition (o_textLength : Int32) (o_trial_list : Nat → Int32) (o_text : Nat → Int32) (o_game_board_size : Int32) (o_game_board_cells : Int32) (o_game_board_all : Int64) (o_game_board_upper : Int64) (o_game_board_lower : Int64) (o_game_board_left : Int64) (o_game_board_right : Int64) : Option (Int32 × Int32 × Int32 × Int64 × Int64 × (Nat → Int32)) := ((m_X5_tryText o_textLength o_trial_list o_text o_game_board_size o_game_board_cells o_game_board_all o_game_board_upper o_game_board_lower o_game_board_left o_game_board_right).bind fun u1 => some (u1.1, u1.2.1, u1.2.2.1, u1.2.2.2.1, u1.2.2.2.2.1, u1.2.2.2.2.2))
set_option maxHeartbeats 4000000 in
set_option maxRecDepth 100000 in
theorem c_X5_faultPosition (l : Launch) (D : va_G) (C : Nat → ClassId) (sz : Nat) (a0 : Nat) (a1 : Nat) (a2 : Nat) (a3 : Nat) (a4 : Nat) (a5 : Nat) (a6 : Nat) (a7 : Nat) (a8 : Nat) (a9 : Nat) (a10 : Nat) (a11 : Nat) (a12 : Nat) (a13 : Nat) (a14 : Nat) (a15 : Nat) (a16 : Nat) (z0 : Nat) (o_threatCount : Int32) (o_textLength : Int32) (o_game_made : Int32) (o_game_known : Int32) (o_game_stones0 : Int64) (o_game_stones1 : Int64) (o_game_list : Nat → Int32) (r_o_trial_board : Nat) (o_trial_made : Int32) (o_trial_known : Int32) (o_trial_stones0 : Int64) (o_trial_stones1 : Int64) (o_trial_list : Nat → Int32) (o_slots : Nat → Option Nat) (o_paths_layers : Nat → Int64) (o_table_count : Int32) (o_table_wins : Nat → Int64) (r_o_contest_board : Nat) (o_contest_from : Int64) (o_contest_to : Int64) (o_contest_spots : Nat → Int64) (o_contest_memo : Nat → Int64) (o_foundBridges : Nat → Int32) (o_threatPlayers : Nat → Int32) (o_threatRegions : Nat → Int64) (o_text : Nat → Int32) (o_game_board_size : Int32) (o_game_board_cells : Int32) (o_game_board_all : Int64) (o_game_board_upper : Int64) (o_game_board_lower : Int64) (o_game_board_left : Int64) (o_game_board_right : Int64) (o : Int32 × Int32 × Int32 × Int64 × Int64 × (Nat → Int32)) (hf : m_X5_faultPosition o_textLength o_trial_list o_text o_game_board_size o_game_board_cells o_game_board_all o_game_board_upper o_game_board_lower o_game_board_left o_game_board_right = some o) : Met l yX5_faultPosition (wl yX5_faultPosition cX5_faultPosition 1 (some .int)) R_X5_faultPosition (PW [.ref a0] D C sz (wX5 C a0 a1 a2 a3 a4 a5 a6 a7 a8 a9 a10 a11 a12 a13 a14 a15 a16 o_threatCount o_textLength z0 o_game_made o_game_known o_game_stones0 o_game_stones1 o_game_list r_o_trial_board o_trial_made o_trial_known o_trial_stones0 o_trial_stones1 o_trial_list o_slots o_paths_layers o_table_count o_table_wins r_o_contest_board o_contest_from o_contest_to o_contest_spots o_contest_memo o_foundBridges o_threatPlayers o_threatRegions o_text) [cX0 z0 o_game_board_size o_game_board_cells o_game_board_all o_game_board_upper o_game_board_lower o_game_board_left o_game_board_right]) (QWi D o.1 (wX5 C a0 a1 a2 a3 a4 a5 a6 a7 a8 a9 a10 a11 a12 a13 a14 a15 a16 o_threatCount o_textLength z0 o_game_made o_game_known o_game_stones0 o_game_stones1 o_game_list z0 o.2.1 o.2.2.1 o.2.2.2.1 o.2.2.2.2.1 o.2.2.2.2.2 o_slots o_paths_layers o_table_count o_table_wins r_o_contest_board o_contest_from o_contest_to o_contest_spots o_contest_memo o_foundBridges o_threatPlayers o_threatRegions o_text) (va_A (wX5 C a0 a1 a2 a3 a4 a5 a6 a7 a8 a9 a10 a11 a12 a13 a14 a15 a16 o_threatCount o_textLength z0 o_game_made o_game_known o_game_stones0 o_game_stones1 o_game_list r_o_trial_board o_trial_made o_trial_known o_trial_stones0 o_trial_stones1 o_trial_list o_slots o_paths_layers o_table_count o_table_wins r_o_contest_board o_contest_from o_contest_to o_contest_spots o_contest_memo o_foundBridges o_threatPlayers o_threatRegions o_text) sz)) 0 0 (va_A (wX5 C a0 a1 a2 a3 a4 a5 a6 a7 a8 a9 a10 a11 a12 a13 a14 a15 a16 o_threatCount o_textLength z0 o_game_made o_game_known o_game_stones0 o_game_stones1 o_game_list r_o_trial_board o_trial_made o_trial_known o_trial_stones0 o_trial_stones1 o_trial_list o_slots o_paths_layers o_table_count o_table_wins r_o_contest_board o_contest_from o_contest_to o_contest_spots o_contest_memo o_foundBridges o_threatPlayers o_threatRegions o_text) sz) := by
  refine Met_ofC (by decide) ?_
  intro p e s m args below meth c hc hv
  obtain ⟨rfl, hsz, hP, hK, hD0, hO, hN0⟩ := hv
  subst hsz
  have hD := hD0.self (sz := s.heap.size)
  have hN : ∀ q ∈ [cX0 z0 o_game_board_size o_game_board_cells o_game_board_all o_game_board_upper o_game_board_lower o_game_board_left o_game_board_right], ¬ va_A (wX5 C a0 a1 a2 a3 a4 a5 a6 a7 a8 a9 a10 a11 a12 a13 a14 a15 a16 o_threatCount o_textLength z0 o_game_made o_game_known o_game_stones0 o_game_stones1 o_game_list r_o_trial_board o_trial_made o_trial_known o_trial_stones0 o_trial_stones1 o_trial_list o_slots o_paths_layers o_table_count o_table_wins r_o_contest_board o_contest_from o_contest_to o_contest_spots o_contest_memo o_foundBridges o_threatPlayers o_threatRegions o_text) s.heap.size q.1 := hN0
  generalize hAe : va_A (wX5 C a0 a1 a2 a3 a4 a5 a6 a7 a8 a9 a10 a11 a12 a13 a14 a15 a16 o_threatCount o_textLength z0 o_game_made o_game_known o_game_stones0 o_game_stones1 o_game_list r_o_trial_board o_trial_made o_trial_known o_trial_stones0 o_trial_stones1 o_trial_list o_slots o_paths_layers o_table_count o_table_wins r_o_contest_board o_contest_from o_contest_to o_contest_spots o_contest_memo o_foundBridges o_threatPlayers o_threatRegions o_text) s.heap.size = A at hD hN ⊢
  have hA : ∀ q : Nat, s.heap.size ≤ q → A q := fun q h => by rw [← hAe]; exact Or.inr h
  have hS : va_S A s.heap s.heap [] := va_S.rf
  have hx := hc.1
  have hb := hc.2.1
  have hown := hc.2.2.2.2.1
  have hts := hc.2.2.2.2.2.1
  refine en_F rfl (fun ls hl => ?_)
  have hl : lv_has ls 1 [(0, .ref a0)] := hl
  refine lv_aload_n hx hb dX5_faultPosition_0 rfl (lv_at hl 0 rfl) ?_
  obtain ⟨u1, hu1, hf⟩ := bind_some hf
  refine wcVi (A := A) (wc := wX5 C a0 a1 a2 a3 a4 a5 a6 a7 a8 a9 a10 a11 a12 a13 a14 a15 a16 o_threatCount o_textLength z0 o_game_made o_game_known o_game_stones0 o_game_stones1 o_game_list r_o_trial_board o_trial_made o_trial_known o_trial_stones0 o_trial_stones1 o_trial_list o_slots o_paths_layers o_table_count o_table_wins r_o_contest_board o_contest_from o_contest_to o_contest_spots o_contest_memo o_foundBridges o_threatPlayers o_threatRegions o_text) (w1 := wX5 C a0 a1 a2 a3 a4 a5 a6 a7 a8 a9 a10 a11 a12 a13 a14 a15 a16 o_threatCount o_textLength z0 o_game_made o_game_known o_game_stones0 o_game_stones1 o_game_list z0 u1.2.1 u1.2.2.1 u1.2.2.2.1 u1.2.2.2.2.1 u1.2.2.2.2.2 o_slots o_paths_layers o_table_count o_table_wins r_o_contest_board o_contest_from o_contest_to o_contest_spots o_contest_memo o_foundBridges o_threatPlayers o_threatRegions o_text) (rc := [cX0 z0 o_game_board_size o_game_board_cells o_game_board_all o_game_board_upper o_game_board_lower o_game_board_left o_game_board_right]) (As := []) (rest := []) hc k_X5_252 (c_X5_tryText l D C _ a0 a1 a2 a3 a4 a5 a6 a7 a8 a9 a10 a11 a12 a13 a14 a15 a16 z0 o_threatCount o_textLength o_game_made o_game_known o_game_stones0 o_game_stones1 o_game_list r_o_trial_board o_trial_made o_trial_known o_trial_stones0 o_trial_stones1 o_trial_list o_slots o_paths_layers o_table_count o_table_wins r_o_contest_board o_contest_from o_contest_to o_contest_spots o_contest_memo o_foundBridges o_threatPlayers o_threatRegions o_text o_game_board_size o_game_board_cells o_game_board_all o_game_board_upper o_game_board_lower o_game_board_left o_game_board_right  _ hu1) ⟨rfl, rfl, Nat.le_of_ble_eq_true rfl, Nat.le_of_ble_eq_true rfl⟩ hP hD hS hA hK [0, 1, 2, 3, 4, 5, 6, 7, 8, 9, 10, 11, 12, 13, 14, 15, 16] [] rfl rfl rfl rfl (by decide) ((hP.app (ro_S hO hN hS)).sub [17] rfl) (Ap_cons (fun h9 => hN _ (List.mem_of_getElem? (i := 0) rfl) (va_free (wc := wX5 C a0 a1 a2 a3 a4 a5 a6 a7 a8 a9 a10 a11 a12 a13 a14 a15 a16 o_threatCount o_textLength z0 o_game_made o_game_known o_game_stones0 o_game_stones1 o_game_list r_o_trial_board o_trial_made o_trial_known o_trial_stones0 o_trial_stones1 o_trial_list o_slots o_paths_layers o_table_count o_table_wins r_o_contest_board o_contest_from o_contest_to o_contest_spots o_contest_memo o_foundBridges o_threatPlayers o_threatRegions o_text) hD hS hA [0, 1, 2, 3, 4, 5, 6, 7, 8, 9, 10, 11, 12, 13, 14, 15, 16] rfl _ h9)) Ap_nil) (q0 := 0) rfl rfl rfl hl rfl rfl (Nat.le_of_ble_eq_true rfl) ⟨Nat.zero_le _, Nat.zero_le _⟩ dX5_faultPosition_1 (fun H locs hP hD hS => ?_)
  have hP : va_P D vwCl (wX5 C a0 a1 a2 a3 a4 a5 a6 a7 a8 a9 a10 a11 a12 a13 a14 a15 a16 o_threatCount o_textLength z0 o_game_made o_game_known o_game_stones0 o_game_stones1 o_game_list z0 u1.2.1 u1.2.2.1 u1.2.2.2.1 u1.2.2.2.2.1 u1.2.2.2.2.2 o_slots o_paths_layers o_table_count o_table_wins r_o_contest_board o_contest_from o_contest_to o_contest_spots o_contest_memo o_foundBridges o_threatPlayers o_threatRegions o_text) H := hP.sub [0, 1, 2, 3, 4, 5, 6, 7, 8, 9, 10, 11, 12, 13, 14, 15, 16] rfl
  have hD : va_D A (wX5 C a0 a1 a2 a3 a4 a5 a6 a7 a8 a9 a10 a11 a12 a13 a14 a15 a16 o_threatCount o_textLength z0 o_game_made o_game_known o_game_stones0 o_game_stones1 o_game_list z0 u1.2.1 u1.2.2.1 u1.2.2.2.1 u1.2.2.2.2.1 u1.2.2.2.2.2 o_slots o_paths_layers o_table_count o_table_wins r_o_contest_board o_contest_from o_contest_to o_contest_spots o_contest_memo o_foundBridges o_threatPlayers o_threatRegions o_text) := hD.sub [0, 1, 2, 3, 4, 5, 6, 7, 8, 9, 10, 11, 12, 13, 14, 15, 16] rfl rfl
  have hf := Option.some.inj hf
  subst hf
  exact rWi hc rfl hP hD hS dX5_faultPosition_4
abbrev R_X5_read : Room := { frames := 6, cells := 0, slots := 0, locals := 150 }
def m_X5_read (o_threatCount : Int32) (o_textLength : Int32) (o_game_made : Int32) (o_game_known : Int32) (o_game_stones0 : Int64) (o_game_stones1 : Int64) (o_game_list : Nat → Int32) (o_trial_list : Nat → Int32) (o_text : Nat → Int32) (o_game_board_size : Int32) (o_game_board_cells : Int32) (o_game_board_all : Int64) (o_game_board_upper : Int64) (o_game_board_lower : Int64) (o_game_board_left : Int64) (o_game_board_right : Int64) : Option (Int32 × Int32 × Int32 × Int32 × Int64 × Int64 × (Nat → Int32) × Int32 × Int32 × Int64 × Int64 × (Nat → Int32)) := ((m_X5_tryText o_textLength o_trial_list o_text o_game_board_size o_game_board_cells o_game_board_all o_game_board_upper o_game_board_lower o_game_board_left o_game_board_right).bind fun u1 => (if u1.1 = (-15 : Int32) then ((m_X3_copyFrom o_game_list u1.2.1 u1.2.2.1 u1.2.2.2.1 u1.2.2.2.2.1 u1.2.2.2.2.2).bind fun u3 => some (u3.1, (0 : Int32), u3.1, u3.2.1, u3.2.2.1, u3.2.2.2.1, u3.2.2.2.2, u1.2.1, u1.2.2.1, u1.2.2.2.1, u1.2.2.2.2.1, u1.2.2.2.2.2)) else some ((-13 : Int32), o_threatCount, o_game_made, o_game_known, o_game_stones0, o_game_stones1, o_game_list, u1.2.1, u1.2.2.1, u1.2.2.2.1, u1.2.2.2.2.1, u1.2.2.2.2.2)))
set_option maxHeartbeats 4000000 in
set_option maxRecDepth 100000 in
theorem c_X5_read (l : Launch) (D : va_G) (C : Nat → ClassId) (sz : Nat) (a0 : Nat) (a1 : Nat) (a2 : Nat) (a3 : Nat) (a4 : Nat) (a5 : Nat) (a6 : Nat) (a7 : Nat) (a8 : Nat) (a9 : Nat) (a10 : Nat) (a11 : Nat) (a12 : Nat) (a13 : Nat) (a14 : Nat) (a15 : Nat) (a16 : Nat) (z0 : Nat) (o_threatCount : Int32) (o_textLength : Int32) (o_game_made : Int32) (o_game_known : Int32) (o_game_stones0 : Int64) (o_game_stones1 : Int64) (o_game_list : Nat → Int32) (r_o_trial_board : Nat) (o_trial_made : Int32) (o_trial_known : Int32) (o_trial_stones0 : Int64) (o_trial_stones1 : Int64) (o_trial_list : Nat → Int32) (o_slots : Nat → Option Nat) (o_paths_layers : Nat → Int64) (o_table_count : Int32) (o_table_wins : Nat → Int64) (r_o_contest_board : Nat) (o_contest_from : Int64) (o_contest_to : Int64) (o_contest_spots : Nat → Int64) (o_contest_memo : Nat → Int64) (o_foundBridges : Nat → Int32) (o_threatPlayers : Nat → Int32) (o_threatRegions : Nat → Int64) (o_text : Nat → Int32) (o_game_board_size : Int32) (o_game_board_cells : Int32) (o_game_board_all : Int64) (o_game_board_upper : Int64) (o_game_board_lower : Int64) (o_game_board_left : Int64) (o_game_board_right : Int64) (o : Int32 × Int32 × Int32 × Int32 × Int64 × Int64 × (Nat → Int32) × Int32 × Int32 × Int64 × Int64 × (Nat → Int32)) (hf : m_X5_read o_threatCount o_textLength o_game_made o_game_known o_game_stones0 o_game_stones1 o_game_list o_trial_list o_text o_game_board_size o_game_board_cells o_game_board_all o_game_board_upper o_game_board_lower o_game_board_left o_game_board_right = some o) : Met l yX5_read (wl yX5_read cX5_read 1 (some .int)) R_X5_read (PW [.ref a0] D C sz (wX5 C a0 a1 a2 a3 a4 a5 a6 a7 a8 a9 a10 a11 a12 a13 a14 a15 a16 o_threatCount o_textLength z0 o_game_made o_game_known o_game_stones0 o_game_stones1 o_game_list r_o_trial_board o_trial_made o_trial_known o_trial_stones0 o_trial_stones1 o_trial_list o_slots o_paths_layers o_table_count o_table_wins r_o_contest_board o_contest_from o_contest_to o_contest_spots o_contest_memo o_foundBridges o_threatPlayers o_threatRegions o_text) [cX0 z0 o_game_board_size o_game_board_cells o_game_board_all o_game_board_upper o_game_board_lower o_game_board_left o_game_board_right]) (QWi D o.1 (wX5 C a0 a1 a2 a3 a4 a5 a6 a7 a8 a9 a10 a11 a12 a13 a14 a15 a16 o.2.1 o_textLength z0 o.2.2.1 o.2.2.2.1 o.2.2.2.2.1 o.2.2.2.2.2.1 o.2.2.2.2.2.2.1 z0 o.2.2.2.2.2.2.2.1 o.2.2.2.2.2.2.2.2.1 o.2.2.2.2.2.2.2.2.2.1 o.2.2.2.2.2.2.2.2.2.2.1 o.2.2.2.2.2.2.2.2.2.2.2 o_slots o_paths_layers o_table_count o_table_wins r_o_contest_board o_contest_from o_contest_to o_contest_spots o_contest_memo o_foundBridges o_threatPlayers o_threatRegions o_text) (va_A (wX5 C a0 a1 a2 a3 a4 a5 a6 a7 a8 a9 a10 a11 a12 a13 a14 a15 a16 o_threatCount o_textLength z0 o_game_made o_game_known o_game_stones0 o_game_stones1 o_game_list r_o_trial_board o_trial_made o_trial_known o_trial_stones0 o_trial_stones1 o_trial_list o_slots o_paths_layers o_table_count o_table_wins r_o_contest_board o_contest_from o_contest_to o_contest_spots o_contest_memo o_foundBridges o_threatPlayers o_threatRegions o_text) sz)) 0 0 (va_A (wX5 C a0 a1 a2 a3 a4 a5 a6 a7 a8 a9 a10 a11 a12 a13 a14 a15 a16 o_threatCount o_textLength z0 o_game_made o_game_known o_game_stones0 o_game_stones1 o_game_list r_o_trial_board o_trial_made o_trial_known o_trial_stones0 o_trial_stones1 o_trial_list o_slots o_paths_layers o_table_count o_table_wins r_o_contest_board o_contest_from o_contest_to o_contest_spots o_contest_memo o_foundBridges o_threatPlayers o_threatRegions o_text) sz) := by
  refine Met_ofC (by decide) ?_
  intro p e s m args below meth c hc hv
  obtain ⟨rfl, hsz, hP, hK, hD0, hO, hN0⟩ := hv
  subst hsz
  have hD := hD0.self (sz := s.heap.size)
  have hN : ∀ q ∈ [cX0 z0 o_game_board_size o_game_board_cells o_game_board_all o_game_board_upper o_game_board_lower o_game_board_left o_game_board_right], ¬ va_A (wX5 C a0 a1 a2 a3 a4 a5 a6 a7 a8 a9 a10 a11 a12 a13 a14 a15 a16 o_threatCount o_textLength z0 o_game_made o_game_known o_game_stones0 o_game_stones1 o_game_list r_o_trial_board o_trial_made o_trial_known o_trial_stones0 o_trial_stones1 o_trial_list o_slots o_paths_layers o_table_count o_table_wins r_o_contest_board o_contest_from o_contest_to o_contest_spots o_contest_memo o_foundBridges o_threatPlayers o_threatRegions o_text) s.heap.size q.1 := hN0
  generalize hAe : va_A (wX5 C a0 a1 a2 a3 a4 a5 a6 a7 a8 a9 a10 a11 a12 a13 a14 a15 a16 o_threatCount o_textLength z0 o_game_made o_game_known o_game_stones0 o_game_stones1 o_game_list r_o_trial_board o_trial_made o_trial_known o_trial_stones0 o_trial_stones1 o_trial_list o_slots o_paths_layers o_table_count o_table_wins r_o_contest_board o_contest_from o_contest_to o_contest_spots o_contest_memo o_foundBridges o_threatPlayers o_threatRegions o_text) s.heap.size = A at hD hN ⊢
  have hA : ∀ q : Nat, s.heap.size ≤ q → A q := fun q h => by rw [← hAe]; exact Or.inr h
  have hS : va_S A s.heap s.heap [] := va_S.rf
  have hx := hc.1
  have hb := hc.2.1
  have hown := hc.2.2.2.2.1
  have hts := hc.2.2.2.2.2.1
  refine en_F rfl (fun ls hl => ?_)
  have hl : lv_has ls 1 [(0, .ref a0)] := hl
  refine lv_aload_n hx hb dX5_read_0 rfl (lv_at hl 0 rfl) ?_
  obtain ⟨u1, hu1, hf⟩ := bind_some hf
  refine wcVi (A := A) (wc := wX5 C a0 a1 a2 a3 a4 a5 a6 a7 a8 a9 a10 a11 a12 a13 a14 a15 a16 o_threatCount o_textLength z0 o_game_made o_game_known o_game_stones0 o_game_stones1 o_game_list r_o_trial_board o_trial_made o_trial_known o_trial_stones0 o_trial_stones1 o_trial_list o_slots o_paths_layers o_table_count o_table_wins r_o_contest_board o_contest_from o_contest_to o_contest_spots o_contest_memo o_foundBridges o_threatPlayers o_threatRegions o_text) (w1 := wX5 C a0 a1 a2 a3 a4 a5 a6 a7 a8 a9 a10 a11 a12 a13 a14 a15 a16 o_threatCount o_textLength z0 o_game_made o_game_known o_game_stones0 o_game_stones1 o_game_list z0 u1.2.1 u1.2.2.1 u1.2.2.2.1 u1.2.2.2.2.1 u1.2.2.2.2.2 o_slots o_paths_layers o_table_count o_table_wins r_o_contest_board o_contest_from o_contest_to o_contest_spots o_contest_memo o_foundBridges o_threatPlayers o_threatRegions o_text) (rc := [cX0 z0 o_game_board_size o_game_board_cells o_game_board_all o_game_board_upper o_game_board_lower o_game_board_left o_game_board_right]) (As := []) (rest := []) hc k_X5_252 (c_X5_tryText l D C _ a0 a1 a2 a3 a4 a5 a6 a7 a8 a9 a10 a11 a12 a13 a14 a15 a16 z0 o_threatCount o_textLength o_game_made o_game_known o_game_stones0 o_game_stones1 o_game_list r_o_trial_board o_trial_made o_trial_known o_trial_stones0 o_trial_stones1 o_trial_list o_slots o_paths_layers o_table_count o_table_wins r_o_contest_board o_contest_from o_contest_to o_contest_spots o_contest_memo o_foundBridges o_threatPlayers o_threatRegions o_text o_game_board_size o_game_board_cells o_game_board_all o_game_board_upper o_game_board_lower o_game_board_left o_game_board_right  _ hu1) ⟨rfl, rfl, Nat.le_of_ble_eq_true rfl, Nat.le_of_ble_eq_true rfl⟩ hP hD hS hA hK [0, 1, 2, 3, 4, 5, 6, 7, 8, 9, 10, 11, 12, 13, 14, 15, 16] [] rfl rfl rfl rfl (by decide) ((hP.app (ro_S hO hN hS)).sub [17] rfl) (Ap_cons (fun h9 => hN _ (List.mem_of_getElem? (i := 0) rfl) (va_free (wc := wX5 C a0 a1 a2 a3 a4 a5 a6 a7 a8 a9 a10 a11 a12 a13 a14 a15 a16 o_threatCount o_textLength z0 o_game_made o_game_known o_game_stones0 o_game_stones1 o_game_list r_o_trial_board o_trial_made o_trial_known o_trial_stones0 o_trial_stones1 o_trial_list o_slots o_paths_layers o_table_count o_table_wins r_o_contest_board o_contest_from o_contest_to o_contest_spots o_contest_memo o_foundBridges o_threatPlayers o_threatRegions o_text) hD hS hA [0, 1, 2, 3, 4, 5, 6, 7, 8, 9, 10, 11, 12, 13, 14, 15, 16] rfl _ h9)) Ap_nil) (q0 := 0) rfl rfl rfl hl rfl rfl (Nat.le_of_ble_eq_true rfl) ⟨Nat.zero_le _, Nat.zero_le _⟩ dX5_read_1 (fun H locs hP hD hS => ?_)
  have hP : va_P D vwCl (wX5 C a0 a1 a2 a3 a4 a5 a6 a7 a8 a9 a10 a11 a12 a13 a14 a15 a16 o_threatCount o_textLength z0 o_game_made o_game_known o_game_stones0 o_game_stones1 o_game_list z0 u1.2.1 u1.2.2.1 u1.2.2.2.1 u1.2.2.2.2.1 u1.2.2.2.2.2 o_slots o_paths_layers o_table_count o_table_wins r_o_contest_board o_contest_from o_contest_to o_contest_spots o_contest_memo o_foundBridges o_threatPlayers o_threatRegions o_text) H := hP.sub [0, 1, 2, 3, 4, 5, 6, 7, 8, 9, 10, 11, 12, 13, 14, 15, 16] rfl
  have hD : va_D A (wX5 C a0 a1 a2 a3 a4 a5 a6 a7 a8 a9 a10 a11 a12 a13 a14 a15 a16 o_threatCount o_textLength z0 o_game_made o_game_known o_game_stones0 o_game_stones1 o_game_list z0 u1.2.1 u1.2.2.1 u1.2.2.2.1 u1.2.2.2.2.1 u1.2.2.2.2.2 o_slots o_paths_layers o_table_count o_table_wins r_o_contest_board o_contest_from o_contest_to o_contest_spots o_contest_memo o_foundBridges o_threatPlayers o_threatRegions o_text) := hD.sub [0, 1, 2, 3, 4, 5, 6, 7, 8, 9, 10, 11, 12, 13, 14, 15, 16] rfl rfl
  refine lv_bipush (v := (-15 : Int32)) hx hb dX5_read_4 (by decide) ?_
  refine lv_icmp_eq (tgt := 12) hx hb dX5_read_6 (by decide) (fun c2 => ?_) (fun c2 => ?_)
  · have hf := if_t hf c2
    refine lv_aload_n hx hb dX5_read_12 rfl (lv_at hl 0 rfl) ?_
    refine va_get (D := D) (ci := 5) (v := .ref a1) (C := RX5) (T := TX5) (N := 12) hx hb hts inX5 hown hK hP 0 rfl rfl 0 (by decide) (hts _ q_137) (fun _ h9 => h9) rfl dX5_read_13 ?_
    refine lv_aload_n hx hb dX5_read_16 rfl (lv_at hl 0 rfl) ?_
    refine va_get (D := D) (ci := 5) (v := .ref a3) (C := RX5) (T := TX5) (N := 12) hx hb hts inX5 hown hK hP 0 rfl rfl 1 (by decide) (hts _ q_138) (fun _ h9 => h9) rfl dX5_read_17 ?_
    obtain ⟨u3, hu3, hf⟩ := bind_some hf
    refine wcVv (A := A) (wc := [cX3 a1 z0 o_game_made o_game_known a2 o_game_stones0 o_game_stones1, aI C a2 50 o_game_list]) (w1 := [cX3 a1 z0 u3.1 u3.2.1 a2 u3.2.2.1 u3.2.2.2.1, aI C a2 50 u3.2.2.2.2]) (rc := [cX3 a3 z0 u1.2.1 u1.2.2.1 a4 u1.2.2.2.1 u1.2.2.2.2.1, aI C a4 50 u1.2.2.2.2.2]) (As := [.ref a3]) (rest := []) hc k_X5_255 (c_X3_copyFrom l D C _ a1 a2 a3 a4 z0 o_game_made o_game_known o_game_stones0 o_game_stones1 o_game_list z0 u1.2.1 u1.2.2.1 u1.2.2.2.1 u1.2.2.2.2.1 u1.2.2.2.2.2  _ hu3) ⟨rfl, rfl, Nat.le_of_ble_eq_true rfl, Nat.le_of_ble_eq_true rfl⟩ hP hD hS hA hK [1, 2] [0, 3, 4, 5, 6, 7, 8, 9, 10, 11, 12, 13, 14, 15, 16] rfl rfl rfl rfl (by decide) ((hP.app (ro_S hO hN hS)).sub [3, 4] rfl) (Ap_cons (apart_w hP hD [1, 2] rfl 3 rfl (by decide)) (Ap_cons (apart_w hP hD [1, 2] rfl 4 rfl (by decide)) Ap_nil)) (q0 := 0) rfl rfl rfl hl rfl rfl (Nat.le_of_ble_eq_true rfl) ⟨Nat.zero_le _, Nat.zero_le _⟩ dX5_read_20 (fun H locs hP hD hS => ?_)
    have hP : va_P D vwCl (wX5 C a0 a1 a2 a3 a4 a5 a6 a7 a8 a9 a10 a11 a12 a13 a14 a15 a16 o_threatCount o_textLength z0 u3.1 u3.2.1 u3.2.2.1 u3.2.2.2.1 u3.2.2.2.2 z0 u1.2.1 u1.2.2.1 u1.2.2.2.1 u1.2.2.2.2.1 u1.2.2.2.2.2 o_slots o_paths_layers o_table_count o_table_wins r_o_contest_board o_contest_from o_contest_to o_contest_spots o_contest_memo o_foundBridges o_threatPlayers o_threatRegions o_text) H := hP.sub [0, 15, 16, 1, 2, 3, 4, 5, 6, 7, 8, 9, 10, 11, 12, 13, 14] rfl
    have hD : va_D A (wX5 C a0 a1 a2 a3 a4 a5 a6 a7 a8 a9 a10 a11 a12 a13 a14 a15 a16 o_threatCount o_textLength z0 u3.1 u3.2.1 u3.2.2.1 u3.2.2.2.1 u3.2.2.2.2 z0 u1.2.1 u1.2.2.1 u1.2.2.2.1 u1.2.2.2.2.1 u1.2.2.2.2.2 o_slots o_paths_layers o_table_count o_table_wins r_o_contest_board o_contest_from o_contest_to o_contest_spots o_contest_memo o_foundBridges o_threatPlayers o_threatRegions o_text) := hD.sub [0, 15, 16, 1, 2, 3, 4, 5, 6, 7, 8, 9, 10, 11, 12, 13, 14] rfl rfl
    refine lv_aload_n hx hb dX5_read_23 rfl (lv_at hl 0 rfl) ?_
    refine lv_iconst (v := (0 : Int32)) hx hb dX5_read_24 (by decide) ?_
    refine va_put (D := D) (ci := 5) (v := .int (0 : Int32)) (ty := .int) (C := RX5) (T := TX5) (N := 12) hx hb hts inX5 tyX5 tyX5_ok nmX5 hown hK hP hD hS 0 rfl rfl 9 (by decide) (hts _ q_146) (fun _ h9 => h9) rfl (by decide +kernel) rfl rfl (Nat.le_of_ble_eq_true rfl) dX5_read_25 (fun H locs hP hD hS => ?_)
    have hP : va_P D vwCl (wX5 C a0 a1 a2 a3 a4 a5 a6 a7 a8 a9 a10 a11 a12 a13 a14 a15 a16 (0 : Int32) o_textLength z0 u3.1 u3.2.1 u3.2.2.1 u3.2.2.2.1 u3.2.2.2.2 z0 u1.2.1 u1.2.2.1 u1.2.2.2.1 u1.2.2.2.2.1 u1.2.2.2.2.2 o_slots o_paths_layers o_table_count o_table_wins r_o_contest_board o_contest_from o_contest_to o_contest_spots o_contest_memo o_foundBridges o_threatPlayers o_threatRegions o_text) H := hP
    have hD : va_D A (wX5 C a0 a1 a2 a3 a4 a5 a6 a7 a8 a9 a10 a11 a12 a13 a14 a15 a16 (0 : Int32) o_textLength z0 u3.1 u3.2.1 u3.2.2.1 u3.2.2.2.1 u3.2.2.2.2 z0 u1.2.1 u1.2.2.1 u1.2.2.2.1 u1.2.2.2.2.1 u1.2.2.2.2.2 o_slots o_paths_layers o_table_count o_table_wins r_o_contest_board o_contest_from o_contest_to o_contest_spots o_contest_memo o_foundBridges o_threatPlayers o_threatRegions o_text) := hD
    refine lv_aload_n hx hb dX5_read_28 rfl (lv_at hl 0 rfl) ?_
    refine va_get (D := D) (ci := 5) (v := .ref a1) (C := RX5) (T := TX5) (N := 12) hx hb hts inX5 hown hK hP 0 rfl rfl 0 (by decide) (hts _ q_137) (fun _ h9 => h9) rfl dX5_read_29 ?_
    refine va_get (D := D) (ci := 3) (v := .int u3.1) (C := RX3) (T := TX3) (N := 6) hx hb hts inX3 hown hK hP 1 rfl rfl 1 (by decide) (hts _ q_96) (fun _ h9 => h9) rfl dX5_read_32 ?_
    have hf := Option.some.inj hf
    subst hf
    exact rWi hc rfl hP hD hS dX5_read_35
  · have hf := if_f hf c2
    refine lv_bipush (v := (-13 : Int32)) hx hb dX5_read_9 (by decide) ?_
    have hf := Option.some.inj hf
    subst hf
    exact rWi hc rfl hP hD hS dX5_read_11

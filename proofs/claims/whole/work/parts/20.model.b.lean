abbrev R_X6_winner : Room := { frames := 5, cells := 0, slots := 0, locals := 118 }
def m_X6_winner (o_n : Int32) (o_own0 : Int64) (o_own1 : Int64) (o_near : Nat → Int64) : Option (Int32) := ((m_X6_winnerNow o_n o_own0 o_own1 o_near).bind fun u1 => some u1)
set_option maxHeartbeats 4000000 in
set_option maxRecDepth 100000 in
theorem c_X6_winner (l : Launch) (D : va_G) (C : Nat → ClassId) (z0 : Nat) (z1 : Nat) (o_n : Int32) (r_o_game : Nat) (o_all : Int32) (o_made : Int32) (o_own0 : Int64) (o_own1 : Int64) (r_o_kept : Nat) (r_o_isKept : Nat) (r_o_threatOf : Nat) (r_o_threatSet : Nat) (o_threatMany : Int32) (r_o_text : Nat) (o_length : Int32) (r_o_far : Nat) (r_o_back : Nat) (r_o_hole : Nat) (o_holes : Int32) (r_o_isWon : Nat) (r_o_won : Nat) (r_o_lasts : Nat) (r_o_power : Nat) (r_o_told : Nat) (o_tellings : Int32) (o_near : Nat → Int64) (o : Int32) (hf : m_X6_winner o_n o_own0 o_own1 o_near = some o) : Met l yX6_winner (wl yX6_winner cX6_winner 1 (some .int)) R_X6_winner (PR [.ref z0] D C [cX6 z0 o_n r_o_game o_all o_made o_own0 o_own1 z1 r_o_kept r_o_isKept r_o_threatOf r_o_threatSet o_threatMany r_o_text o_length r_o_far r_o_back r_o_hole o_holes r_o_isWon r_o_won r_o_lasts r_o_power r_o_told o_tellings, aJ C z1 49 o_near]) (vp_Si (fun r => r = o)) 0 0 (fun _ => False) := by
  refine Met_ofC (by decide) ?_
  intro p e s m args below meth c hc hv
  obtain ⟨rfl, hP, hK⟩ := hv
  have hx := hc.1
  have hb := hc.2.1
  have hown := hc.2.2.2.2.1
  have hts := hc.2.2.2.2.2.1
  refine en_F rfl (fun ls hl => ?_)
  have hl : lv_has ls 1 [(0, .ref z0)] := hl
  refine lv_aload_n hx hb dX6_winner_0 rfl (lv_at hl 0 rfl) ?_
  obtain ⟨u1, hu1, hf⟩ := bind_some hf
  refine rcVi (As := []) (rest := []) hc k_X6_129 (c_X6_winnerNow l D C z0 z1 o_n r_o_game o_all o_made o_own0 o_own1 r_o_kept r_o_isKept r_o_threatOf r_o_threatSet o_threatMany r_o_text o_length r_o_far r_o_back r_o_hole o_holes r_o_isWon r_o_won r_o_lasts r_o_power r_o_told o_tellings o_near  _ hu1) ⟨rfl, rfl, Nat.le_of_ble_eq_true rfl, Nat.le_of_ble_eq_true rfl⟩ (hP.sub [0, 1] rfl) hK (q0 := 0) rfl rfl rfl hl rfl rfl (Nat.le_of_ble_eq_true rfl) ⟨Nat.zero_le _, Nat.zero_le _⟩ dX6_winner_1 ?_
  exact rRi hc (Option.some.inj hf) dX6_winner_4
abbrev R_X6_stones : Room := { frames := 2, cells := 0, slots := 0, locals := 42 }
def m_X6_stones (o_own0 : Int64) (o_own1 : Int64) (p1 : Int32) : Int64 := (if (m_X6_isPlayer p1) = 0 then (-11 : Int64) else (m_X6_own o_own0 o_own1 p1))
set_option maxHeartbeats 4000000 in
set_option maxRecDepth 100000 in
theorem c_X6_stones (l : Launch) (D : va_G) (C : Nat → ClassId) (z0 : Nat) (o_n : Int32) (r_o_game : Nat) (o_all : Int32) (o_made : Int32) (o_own0 : Int64) (o_own1 : Int64) (r_o_near : Nat) (r_o_kept : Nat) (r_o_isKept : Nat) (r_o_threatOf : Nat) (r_o_threatSet : Nat) (o_threatMany : Int32) (r_o_text : Nat) (o_length : Int32) (r_o_far : Nat) (r_o_back : Nat) (r_o_hole : Nat) (o_holes : Int32) (r_o_isWon : Nat) (r_o_won : Nat) (r_o_lasts : Nat) (r_o_power : Nat) (r_o_told : Nat) (o_tellings : Int32) (p1 : Int32) (o : Int64) (hf : m_X6_stones o_own0 o_own1 p1 = o) : Met l yX6_stones (wl yX6_stones cX6_stones 2 (some .long)) R_X6_stones (PR [.ref z0, .int p1] D C [cX6 z0 o_n r_o_game o_all o_made o_own0 o_own1 r_o_near r_o_kept r_o_isKept r_o_threatOf r_o_threatSet o_threatMany r_o_text o_length r_o_far r_o_back r_o_hole o_holes r_o_isWon r_o_won r_o_lasts r_o_power r_o_told o_tellings]) (vp_Sl (fun r => r = o)) 0 0 (fun _ => False) := by
  refine Met_ofC (by decide) ?_
  intro p e s m args below meth c hc hv
  obtain ⟨rfl, hP, hK⟩ := hv
  have hx := hc.1
  have hb := hc.2.1
  have hown := hc.2.2.2.2.1
  have hts := hc.2.2.2.2.2.1
  refine en_F rfl (fun ls hl => ?_)
  have hl : lv_has ls 2 [(0, .ref z0), (1, .int p1)] := hl
  refine lv_iload_n hx hb dX6_stones_0 rfl (lv_at hl 1 rfl) ?_
  refine rcSi (As := [.int p1]) (rest := []) hc k_X6_136 (c_X6_isPlayer l D C p1  _ rfl) ⟨rfl, rfl, Nat.le_of_ble_eq_true rfl, Nat.le_of_ble_eq_true rfl⟩ (hP.sub [] rfl) hK hl rfl rfl (Nat.le_of_ble_eq_true rfl) ⟨Nat.zero_le _, Nat.zero_le _⟩ dX6_stones_1 ?_
  refine lv_if_eq (tgt := 15) hx hb dX6_stones_4 (by decide) (fun c1 => ?_) (fun c1 => ?_)
  · have hf := if_t hf c1
    refine lv_ldc2 (v := (-11 : Int64)) hx hb hown (hts _ q_827) dX6_stones_15 ?_
    exact rRl hc hf dX6_stones_18
  · have hf := if_f hf c1
    refine lv_aload_n hx hb dX6_stones_7 rfl (lv_at hl 0 rfl) ?_
    refine lv_iload_n hx hb dX6_stones_8 rfl (lv_at hl 1 rfl) ?_
    refine rcVl (As := [.int p1]) (rest := []) hc k_X6_139 (c_X6_own l D C z0 o_n r_o_game o_all o_made o_own0 o_own1 r_o_near r_o_kept r_o_isKept r_o_threatOf r_o_threatSet o_threatMany r_o_text o_length r_o_far r_o_back r_o_hole o_holes r_o_isWon r_o_won r_o_lasts r_o_power r_o_told o_tellings p1  _ rfl) ⟨rfl, rfl, Nat.le_of_ble_eq_true rfl, Nat.le_of_ble_eq_true rfl⟩ (hP.sub [0] rfl) hK (q0 := 0) rfl rfl rfl hl rfl rfl (Nat.le_of_ble_eq_true rfl) ⟨Nat.zero_le _, Nat.zero_le _⟩ dX6_stones_9 ?_
    refine lv_goto (tgt := 18) hx hb dX6_stones_12 (by decide) ?_
    exact rRl hc hf dX6_stones_18
abbrev R_X6_beside : Room := { frames := 2, cells := 0, slots := 0, locals := 43 }
def m_X6_beside (o_n : Int32) (o_near : Nat → Int64) (p1 : Int32) : Option (Int64) := (if (m_X6_isCell o_n p1) = 0 then some (-11 : Int64) else (if okI p1 49 = true then some (o_near p1.toNatClampNeg) else none))
set_option maxHeartbeats 4000000 in
set_option maxRecDepth 100000 in
theorem c_X6_beside (l : Launch) (D : va_G) (C : Nat → ClassId) (z0 : Nat) (z1 : Nat) (o_n : Int32) (r_o_game : Nat) (o_all : Int32) (o_made : Int32) (o_own0 : Int64) (o_own1 : Int64) (r_o_kept : Nat) (r_o_isKept : Nat) (r_o_threatOf : Nat) (r_o_threatSet : Nat) (o_threatMany : Int32) (r_o_text : Nat) (o_length : Int32) (r_o_far : Nat) (r_o_back : Nat) (r_o_hole : Nat) (o_holes : Int32) (r_o_isWon : Nat) (r_o_won : Nat) (r_o_lasts : Nat) (r_o_power : Nat) (r_o_told : Nat) (o_tellings : Int32) (o_near : Nat → Int64) (p1 : Int32) (o : Int64) (hf : m_X6_beside o_n o_near p1 = some o) : Met l yX6_beside (wl yX6_beside cX6_beside 2 (some .long)) R_X6_beside (PR [.ref z0, .int p1] D C [cX6 z0 o_n r_o_game o_all o_made o_own0 o_own1 z1 r_o_kept r_o_isKept r_o_threatOf r_o_threatSet o_threatMany r_o_text o_length r_o_far r_o_back r_o_hole o_holes r_o_isWon r_o_won r_o_lasts r_o_power r_o_told o_tellings, aJ C z1 49 o_near]) (vp_Sl (fun r => r = o)) 0 0 (fun _ => False) := by
  refine Met_ofC (by decide) ?_
  intro p e s m args below meth c hc hv
  obtain ⟨rfl, hP, hK⟩ := hv
  have hx := hc.1
  have hb := hc.2.1
  have hown := hc.2.2.2.2.1
  have hts := hc.2.2.2.2.2.1
  refine en_F rfl (fun ls hl => ?_)
  have hl : lv_has ls 2 [(0, .ref z0), (1, .int p1)] := hl
  refine lv_aload_n hx hb dX6_beside_0 rfl (lv_at hl 0 rfl) ?_
  refine lv_iload_n hx hb dX6_beside_1 rfl (lv_at hl 1 rfl) ?_
  refine rcVi (As := [.int p1]) (rest := []) hc k_X6_122 (c_X6_isCell l D C z0 o_n r_o_game o_all o_made o_own0 o_own1 z1 r_o_kept r_o_isKept r_o_threatOf r_o_threatSet o_threatMany r_o_text o_length r_o_far r_o_back r_o_hole o_holes r_o_isWon r_o_won r_o_lasts r_o_power r_o_told o_tellings p1  _ rfl) ⟨rfl, rfl, Nat.le_of_ble_eq_true rfl, Nat.le_of_ble_eq_true rfl⟩ (hP.sub [0] rfl) hK (q0 := 0) rfl rfl rfl hl rfl rfl (Nat.le_of_ble_eq_true rfl) ⟨Nat.zero_le _, Nat.zero_le _⟩ dX6_beside_2 ?_
  refine lv_if_eq (tgt := 17) hx hb dX6_beside_5 (by decide) (fun c1 => ?_) (fun c1 => ?_)
  · have hf := if_t hf c1
    refine lv_ldc2 (v := (-11 : Int64)) hx hb hown (hts _ q_827) dX6_beside_17 ?_
    exact rRl hc (Option.some.inj hf) dX6_beside_20
  · have hf := if_f hf c1
    refine lv_aload_n hx hb dX6_beside_8 rfl (lv_at hl 0 rfl) ?_
    refine va_get (D := D) (ci := 6) (v := .ref z1) (C := RX6) (T := TX6) (N := 24) hx hb hts inX6 hown hK hP 0 rfl rfl 6 (by decide) (hts _ q_660) (fun _ h9 => h9) rfl dX6_beside_9 ?_
    refine lv_iload_n hx hb dX6_beside_12 rfl (lv_at hl 1 rfl) ?_
    obtain ⟨h2, hf⟩ := ok_t hf
    refine va_lald hx hb hK hP 1 1 rfl rfl (okI_in h2) dX6_beside_13 ?_
    refine lv_goto (tgt := 20) hx hb dX6_beside_14 (by decide) ?_
    exact rRl hc (Option.some.inj hf) dX6_beside_20
abbrev R_X6_lowest : Room := { frames := 1, cells := 0, slots := 0, locals := 22 }
def m_X6_lowest_c2 (p0 : Int64)  : Nat → Int32 → Option (Int32)
  | 0, _ => none
  | n + 1, v2 => (if (m_X6_has p0 v2) = 0 then (m_X6_lowest_c2 p0  n (v2 + (1 : Int32))) else some v2)
set_option maxHeartbeats 4000000 in
set_option maxRecDepth 100000 in
theorem w_X6_lowest_c2 {p : Program} {l : Launch} {e : Env} {s : State} {m : MethodId} {args : Array Value} {below : List Frame} {meth : Method} {c : Code} {D : va_G} {C : Nat → ClassId} {p0 : Int64} {o : Int32} (hc : Cx p s m args meth c yX6_lowest cX6_lowest 3 (some .int)) (hK : va_K D vwCl (TY C) s) (hP : va_P D vwCl ([] : va_W) s.heap) : ∀ (n : Nat), ∀ (v2 : Int32), m_X6_lowest_c2 p0  n v2 = some o → ∀ (ls : Array Slot), lv_has ls 3 [(0, .long p0), (2, .int v2)] → W p l e R_X6_lowest s m args below meth c s.heap [] 0 0 (MQ below (vp_Si (fun r => r = o)) args s 0 0 (fun _ => False)) (F0 m 2 ls []) := by
  have hx := hc.1
  have hb := hc.2.1
  have hown := hc.2.2.2.2.1
  have hts := hc.2.2.2.2.2.1
  intro n
  induction n with
  | zero =>
    intro v2 hf
    exact no_some hf
  | succ n ih =>
    intro v2 hf ls hl
    refine lv_lload_n hx hb dX6_lowest_2 rfl (lv_at hl 0 rfl) ?_
    refine lv_iload_n hx hb dX6_lowest_3 rfl (lv_at hl 1 rfl) ?_
    refine rcSi (As := [.long p0, .int v2]) (rest := []) hc k_X6_85 (c_X6_has l D C p0 v2  _ rfl) ⟨rfl, rfl, Nat.le_of_ble_eq_true rfl, Nat.le_of_ble_eq_true rfl⟩ (hP.sub [] rfl) hK hl rfl rfl (Nat.le_of_ble_eq_true rfl) ⟨Nat.zero_le _, Nat.zero_le _⟩ dX6_lowest_4 ?_
    refine lv_if_ne (tgt := 16) hx hb dX6_lowest_7 (by decide) (fun c1 => ?_) (fun c1 => ?_)
    · have hf := if_f hf c1
      refine lv_iload_n hx hb dX6_lowest_16 rfl (lv_at hl 1 rfl) ?_
      exact rRi hc (Option.some.inj hf) dX6_lowest_17
    · have hf := if_t hf c1
      refine lv_iinc (v := (v2 + (1 : Int32))) (lv' := [(2, .int (v2 + (1 : Int32))), (0, .long p0)]) hx hb dX6_lowest_10 hl (k := 1) rfl rfl (by decide) rfl (fun ls hl => ?_)
      refine lv_goto (tgt := 2) hx hb dX6_lowest_13 (by decide) ?_
      exact ih (v2 + (1 : Int32)) hf ls (lv_sub hl [1, 0] rfl)
def m_X6_lowest (p0 : Int64) : Option (Int32) := (m_X6_lowest_c2 p0 FU (0 : Int32))
set_option maxHeartbeats 4000000 in
set_option maxRecDepth 100000 in
theorem c_X6_lowest (l : Launch) (D : va_G) (C : Nat → ClassId) (p0 : Int64) (o : Int32) (hf : m_X6_lowest p0 = some o) : Met l yX6_lowest (wl yX6_lowest cX6_lowest 3 (some .int)) R_X6_lowest (PR [.long p0] D C ([] : va_W)) (vp_Si (fun r => r = o)) 0 0 (fun _ => False) := by
  refine Met_ofC (by decide) ?_
  intro p e s m args below meth c hc hv
  obtain ⟨rfl, hP, hK⟩ := hv
  have hx := hc.1
  have hb := hc.2.1
  have hown := hc.2.2.2.2.1
  have hts := hc.2.2.2.2.2.1
  refine en_F rfl (fun ls hl => ?_)
  have hl : lv_has ls 3 [(0, .long p0)] := hl
  refine lv_iconst (v := (0 : Int32)) hx hb dX6_lowest_0 (by decide) ?_
  refine lv_istore_n (lv' := [(2, .int (0 : Int32)), (0, .long p0)]) hx hb dX6_lowest_1 rfl hl (by decide) rfl (fun ls hl => ?_)
  exact w_X6_lowest_c2 hc hK hP  FU (0 : Int32) hf ls (lv_sub hl [1, 0] rfl)
abbrev R_X6_chainWith : Room := { frames := 3, cells := 0, slots := 0, locals := 75 }
def m_X6_chainWith_c26 (o_n : Int32) (o_near : Nat → Int64)  (t0 : Int64) (t1 : Int64) : Option (Int64) := ((m_X6_reach o_n o_near t1 t0).bind fun u2 => some u2)
set_option maxHeartbeats 4000000 in
set_option maxRecDepth 100000 in
theorem w_X6_chainWith_c26 {p : Program} {l : Launch} {e : Env} {s : State} {m : MethodId} {args : Array Value} {below : List Frame} {meth : Method} {c : Code} {D : va_G} {C : Nat → ClassId} {z0 : Nat} {z1 : Nat} {o_n : Int32} {r_o_game : Nat} {o_all : Int32} {o_made : Int32} {o_own0 : Int64} {o_own1 : Int64} {r_o_kept : Nat} {r_o_isKept : Nat} {r_o_threatOf : Nat} {r_o_threatSet : Nat} {o_threatMany : Int32} {r_o_text : Nat} {o_length : Int32} {r_o_far : Nat} {r_o_back : Nat} {r_o_hole : Nat} {o_holes : Int32} {r_o_isWon : Nat} {r_o_won : Nat} {r_o_lasts : Nat} {r_o_power : Nat} {r_o_told : Nat} {o_tellings : Int32} {o_near : Nat → Int64} {o : Int64} (hc : Cx p s m args meth c yX6_chainWith cX6_chainWith 2 (some .long)) (hK : va_K D vwCl (TY C) s) (hP : va_P D vwCl [cX6 z0 o_n r_o_game o_all o_made o_own0 o_own1 z1 r_o_kept r_o_isKept r_o_threatOf r_o_threatSet o_threatMany r_o_text o_length r_o_far r_o_back r_o_hole o_holes r_o_isWon r_o_won r_o_lasts r_o_power r_o_told o_tellings, aJ C z1 49 o_near] s.heap) : ∀ (t0 : Int64) (t1 : Int64), m_X6_chainWith_c26 o_n o_near  t0 t1 = some o → ∀ (ls : Array Slot), lv_has ls 2 [] → W p l e R_X6_chainWith s m args below meth c s.heap [] 0 0 (MQ below (vp_Sl (fun r => r = o)) args s 0 0 (fun _ => False)) (F0 m 26 ls [.long t0, .long t1, .ref z0]) := by
  have hx := hc.1
  have hb := hc.2.1
  have hown := hc.2.2.2.2.1
  have hts := hc.2.2.2.2.2.1
  intro t0 t1 hf ls hl
  obtain ⟨u2, hu2, hf⟩ := bind_some hf
  refine rcVl (As := [.long t1, .long t0]) (rest := []) hc k_X6_97 (c_X6_reach l D C z0 z1 o_n r_o_game o_all o_made o_own0 o_own1 r_o_kept r_o_isKept r_o_threatOf r_o_threatSet o_threatMany r_o_text o_length r_o_far r_o_back r_o_hole o_holes r_o_isWon r_o_won r_o_lasts r_o_power r_o_told o_tellings o_near t1 t0  _ hu2) ⟨rfl, rfl, Nat.le_of_ble_eq_true rfl, Nat.le_of_ble_eq_true rfl⟩ (hP.sub [0, 1] rfl) hK (q0 := 0) rfl rfl rfl hl rfl rfl (Nat.le_of_ble_eq_true rfl) ⟨Nat.zero_le _, Nat.zero_le _⟩ dX6_chainWith_26 ?_
  exact rRl hc (Option.some.inj hf) dX6_chainWith_29
def m_X6_chainWith (o_n : Int32) (o_own0 : Int64) (o_own1 : Int64) (o_near : Nat → Int64) (p1 : Int32) : Option (Int64) := (if (m_X6_has o_own0 p1) = 0 then (m_X6_chainWith_c26 o_n o_near o_own1 (jshl (1 : Int64) p1)) else (m_X6_chainWith_c26 o_n o_near o_own0 (jshl (1 : Int64) p1)))
set_option maxHeartbeats 4000000 in
set_option maxRecDepth 100000 in
theorem c_X6_chainWith (l : Launch) (D : va_G) (C : Nat → ClassId) (z0 : Nat) (z1 : Nat) (o_n : Int32) (r_o_game : Nat) (o_all : Int32) (o_made : Int32) (o_own0 : Int64) (o_own1 : Int64) (r_o_kept : Nat) (r_o_isKept : Nat) (r_o_threatOf : Nat) (r_o_threatSet : Nat) (o_threatMany : Int32) (r_o_text : Nat) (o_length : Int32) (r_o_far : Nat) (r_o_back : Nat) (r_o_hole : Nat) (o_holes : Int32) (r_o_isWon : Nat) (r_o_won : Nat) (r_o_lasts : Nat) (r_o_power : Nat) (r_o_told : Nat) (o_tellings : Int32) (o_near : Nat → Int64) (p1 : Int32) (o : Int64) (hf : m_X6_chainWith o_n o_own0 o_own1 o_near p1 = some o) : Met l yX6_chainWith (wl yX6_chainWith cX6_chainWith 2 (some .long)) R_X6_chainWith (PR [.ref z0, .int p1] D C [cX6 z0 o_n r_o_game o_all o_made o_own0 o_own1 z1 r_o_kept r_o_isKept r_o_threatOf r_o_threatSet o_threatMany r_o_text o_length r_o_far r_o_back r_o_hole o_holes r_o_isWon r_o_won r_o_lasts r_o_power r_o_told o_tellings, aJ C z1 49 o_near]) (vp_Sl (fun r => r = o)) 0 0 (fun _ => False) := by
  refine Met_ofC (by decide) ?_
  intro p e s m args below meth c hc hv
  obtain ⟨rfl, hP, hK⟩ := hv
  have hx := hc.1
  have hb := hc.2.1
  have hown := hc.2.2.2.2.1
  have hts := hc.2.2.2.2.2.1
  refine en_F rfl (fun ls hl => ?_)
  have hl : lv_has ls 2 [(0, .ref z0), (1, .int p1)] := hl
  refine lv_aload_n hx hb dX6_chainWith_0 rfl (lv_at hl 0 rfl) ?_
  refine lv_lconst (v := (1 : Int64)) hx hb dX6_chainWith_1 (by decide) ?_
  refine lv_iload_n hx hb dX6_chainWith_2 rfl (lv_at hl 1 rfl) ?_
  refine lv_lshl (v := (jshl (1 : Int64) p1)) hx hb dX6_chainWith_3 rfl ?_
  refine lv_aload_n hx hb dX6_chainWith_4 rfl (lv_at hl 0 rfl) ?_
  refine va_get (D := D) (ci := 6) (v := .long o_own0) (C := RX6) (T := TX6) (N := 24) hx hb hts inX6 hown hK hP 0 rfl rfl 4 (by decide) (hts _ q_658) (fun _ h9 => h9) rfl dX6_chainWith_5 ?_
  refine lv_iload_n hx hb dX6_chainWith_8 rfl (lv_at hl 1 rfl) ?_
  refine rcSi (As := [.long o_own0, .int p1]) (rest := [.long (jshl (1 : Int64) p1), .ref z0]) hc k_X6_85 (c_X6_has l D C o_own0 p1  _ rfl) ⟨rfl, rfl, Nat.le_of_ble_eq_true rfl, Nat.le_of_ble_eq_true rfl⟩ (hP.sub [] rfl) hK hl rfl rfl (Nat.le_of_ble_eq_true rfl) ⟨Nat.zero_le _, Nat.zero_le _⟩ dX6_chainWith_9 ?_
  refine lv_if_eq (tgt := 22) hx hb dX6_chainWith_12 (by decide) (fun c1 => ?_) (fun c1 => ?_)
  · have hf := if_t hf c1
    refine lv_aload_n hx hb dX6_chainWith_22 rfl (lv_at hl 0 rfl) ?_
    refine va_get (D := D) (ci := 6) (v := .long o_own1) (C := RX6) (T := TX6) (N := 24) hx hb hts inX6 hown hK hP 0 rfl rfl 5 (by decide) (hts _ q_659) (fun _ h9 => h9) rfl dX6_chainWith_23 ?_
    exact w_X6_chainWith_c26 hc hK hP  o_own1 (jshl (1 : Int64) p1) hf ls (lv_sub hl [] rfl)
  · have hf := if_f hf c1
    refine lv_aload_n hx hb dX6_chainWith_15 rfl (lv_at hl 0 rfl) ?_
    refine va_get (D := D) (ci := 6) (v := .long o_own0) (C := RX6) (T := TX6) (N := 24) hx hb hts inX6 hown hK hP 0 rfl rfl 4 (by decide) (hts _ q_658) (fun _ h9 => h9) rfl dX6_chainWith_16 ?_
    refine lv_goto (tgt := 26) hx hb dX6_chainWith_19 (by decide) ?_
    exact w_X6_chainWith_c26 hc hK hP  o_own0 (jshl (1 : Int64) p1) hf ls (lv_sub hl [] rfl)
abbrev R_X6_chains : Room := { frames := 4, cells := 0, slots := 0, locals := 96 }
def m_X6_chains_c18 (o_n : Int32) (o_own0 : Int64) (o_own1 : Int64) (o_near : Nat → Int64)  : Nat → Int32 → Int64 → Option (Int32)
  | 0, _, _ => none
  | n + 1, v2, v3 => (if v3 = (0 : Int64) then some v2 else ((m_X6_lowest v3).bind fun u3 => ((m_X6_chainWith o_n o_own0 o_own1 o_near u3).bind fun u4 => (m_X6_chains_c18 o_n o_own0 o_own1 o_near  n (v2 + (1 : Int32)) (v3 &&& (u4 ^^^ (-1 : Int64)))))))
set_option maxHeartbeats 4000000 in
set_option maxRecDepth 100000 in
theorem w_X6_chains_c18 {p : Program} {l : Launch} {e : Env} {s : State} {m : MethodId} {args : Array Value} {below : List Frame} {meth : Method} {c : Code} {D : va_G} {C : Nat → ClassId} {z0 : Nat} {z1 : Nat} {o_n : Int32} {r_o_game : Nat} {o_all : Int32} {o_made : Int32} {o_own0 : Int64} {o_own1 : Int64} {r_o_kept : Nat} {r_o_isKept : Nat} {r_o_threatOf : Nat} {r_o_threatSet : Nat} {o_threatMany : Int32} {r_o_text : Nat} {o_length : Int32} {r_o_far : Nat} {r_o_back : Nat} {r_o_hole : Nat} {o_holes : Int32} {r_o_isWon : Nat} {r_o_won : Nat} {r_o_lasts : Nat} {r_o_power : Nat} {r_o_told : Nat} {o_tellings : Int32} {o_near : Nat → Int64} {o : Int32} (hc : Cx p s m args meth c yX6_chains cX6_chains 5 (some .int)) (hK : va_K D vwCl (TY C) s) (hP : va_P D vwCl [cX6 z0 o_n r_o_game o_all o_made o_own0 o_own1 z1 r_o_kept r_o_isKept r_o_threatOf r_o_threatSet o_threatMany r_o_text o_length r_o_far r_o_back r_o_hole o_holes r_o_isWon r_o_won r_o_lasts r_o_power r_o_told o_tellings, aJ C z1 49 o_near] s.heap) : ∀ (n : Nat), ∀ (v2 : Int32) (v3 : Int64), m_X6_chains_c18 o_n o_own0 o_own1 o_near  n v2 v3 = some o → ∀ (ls : Array Slot), lv_has ls 5 [(0, .ref z0), (2, .int v2), (3, .long v3)] → W p l e R_X6_chains s m args below meth c s.heap [] 0 0 (MQ below (vp_Si (fun r => r = o)) args s 0 0 (fun _ => False)) (F0 m 18 ls []) := by
  have hx := hc.1
  have hb := hc.2.1
  have hown := hc.2.2.2.2.1
  have hts := hc.2.2.2.2.2.1
  intro n
  induction n with
  | zero =>
    intro v2 v3 hf
    exact no_some hf
  | succ n ih =>
    intro v2 v3 hf ls hl
    refine lv_lload_n hx hb dX6_chains_18 rfl (lv_at hl 2 rfl) ?_
    refine lv_lconst (v := (0 : Int64)) hx hb dX6_chains_19 (by decide) ?_
    refine lc_eq (tgt := 45) hx hb dX6_chains_20 dX6_chains_21 (by decide) (fun c2 => ?_) (fun c2 => ?_)
    · have hf := if_t hf c2
      refine lv_iload_n hx hb dX6_chains_45 rfl (lv_at hl 1 rfl) ?_
      exact rRi hc (Option.some.inj hf) dX6_chains_46
    · have hf := if_f hf c2
      refine lv_iinc (v := (v2 + (1 : Int32))) (lv' := [(2, .int (v2 + (1 : Int32))), (0, .ref z0), (3, .long v3)]) hx hb dX6_chains_24 hl (k := 1) rfl rfl (by decide) rfl (fun ls hl => ?_)
      refine lv_lload_n hx hb dX6_chains_27 rfl (lv_at hl 2 rfl) ?_
      refine lv_aload_n hx hb dX6_chains_28 rfl (lv_at hl 1 rfl) ?_
      refine lv_lload_n hx hb dX6_chains_29 rfl (lv_at hl 2 rfl) ?_
      obtain ⟨u3, hu3, hf⟩ := bind_some hf
      refine rcSi (As := [.long v3]) (rest := [.ref z0, .long v3]) hc k_X6_144 (c_X6_lowest l D C v3  _ hu3) ⟨rfl, rfl, Nat.le_of_ble_eq_true rfl, Nat.le_of_ble_eq_true rfl⟩ (hP.sub [] rfl) hK hl rfl rfl (Nat.le_of_ble_eq_true rfl) ⟨Nat.zero_le _, Nat.zero_le _⟩ dX6_chains_30 ?_
      obtain ⟨u4, hu4, hf⟩ := bind_some hf
      refine rcVl (As := [.int u3]) (rest := [.long v3]) hc k_X6_148 (c_X6_chainWith l D C z0 z1 o_n r_o_game o_all o_made o_own0 o_own1 r_o_kept r_o_isKept r_o_threatOf r_o_threatSet o_threatMany r_o_text o_length r_o_far r_o_back r_o_hole o_holes r_o_isWon r_o_won r_o_lasts r_o_power r_o_told o_tellings o_near u3  _ hu4) ⟨rfl, rfl, Nat.le_of_ble_eq_true rfl, Nat.le_of_ble_eq_true rfl⟩ (hP.sub [0, 1] rfl) hK (q0 := 0) rfl rfl rfl hl rfl rfl (Nat.le_of_ble_eq_true rfl) ⟨Nat.zero_le _, Nat.zero_le _⟩ dX6_chains_33 ?_
      refine lv_ldc2 (v := (-1 : Int64)) hx hb hown (hts _ q_760) dX6_chains_36 ?_
      refine lv_lxor hx hb dX6_chains_39 ?_
      refine lv_land hx hb dX6_chains_40 ?_
      refine lv_lstore_n (lv' := [(3, .long (v3 &&& (u4 ^^^ (-1 : Int64)))), (2, .int (v2 + (1 : Int32))), (0, .ref z0)]) hx hb dX6_chains_41 rfl hl (by decide) rfl (fun ls hl => ?_)
      refine lv_goto (tgt := 18) hx hb dX6_chains_42 (by decide) ?_
      exact ih (v2 + (1 : Int32)) (v3 &&& (u4 ^^^ (-1 : Int64))) hf ls (lv_sub hl [2, 1, 0] rfl)
def m_X6_chains (o_n : Int32) (o_own0 : Int64) (o_own1 : Int64) (o_near : Nat → Int64) (p1 : Int32) : Option (Int32) := (if (m_X6_isPlayer p1) = 0 then some (-11 : Int32) else (m_X6_chains_c18 o_n o_own0 o_own1 o_near FU (0 : Int32) (m_X6_own o_own0 o_own1 p1)))
set_option maxHeartbeats 4000000 in
set_option maxRecDepth 100000 in
theorem c_X6_chains (l : Launch) (D : va_G) (C : Nat → ClassId) (z0 : Nat) (z1 : Nat) (o_n : Int32) (r_o_game : Nat) (o_all : Int32) (o_made : Int32) (o_own0 : Int64) (o_own1 : Int64) (r_o_kept : Nat) (r_o_isKept : Nat) (r_o_threatOf : Nat) (r_o_threatSet : Nat) (o_threatMany : Int32) (r_o_text : Nat) (o_length : Int32) (r_o_far : Nat) (r_o_back : Nat) (r_o_hole : Nat) (o_holes : Int32) (r_o_isWon : Nat) (r_o_won : Nat) (r_o_lasts : Nat) (r_o_power : Nat) (r_o_told : Nat) (o_tellings : Int32) (o_near : Nat → Int64) (p1 : Int32) (o : Int32) (hf : m_X6_chains o_n o_own0 o_own1 o_near p1 = some o) : Met l yX6_chains (wl yX6_chains cX6_chains 5 (some .int)) R_X6_chains (PR [.ref z0, .int p1] D C [cX6 z0 o_n r_o_game o_all o_made o_own0 o_own1 z1 r_o_kept r_o_isKept r_o_threatOf r_o_threatSet o_threatMany r_o_text o_length r_o_far r_o_back r_o_hole o_holes r_o_isWon r_o_won r_o_lasts r_o_power r_o_told o_tellings, aJ C z1 49 o_near]) (vp_Si (fun r => r = o)) 0 0 (fun _ => False) := by
  refine Met_ofC (by decide) ?_
  intro p e s m args below meth c hc hv
  obtain ⟨rfl, hP, hK⟩ := hv
  have hx := hc.1
  have hb := hc.2.1
  have hown := hc.2.2.2.2.1
  have hts := hc.2.2.2.2.2.1
  refine en_F rfl (fun ls hl => ?_)
  have hl : lv_has ls 5 [(0, .ref z0), (1, .int p1)] := hl
  refine lv_iload_n hx hb dX6_chains_0 rfl (lv_at hl 1 rfl) ?_
  refine rcSi (As := [.int p1]) (rest := []) hc k_X6_136 (c_X6_isPlayer l D C p1  _ rfl) ⟨rfl, rfl, Nat.le_of_ble_eq_true rfl, Nat.le_of_ble_eq_true rfl⟩ (hP.sub [] rfl) hK hl rfl rfl (Nat.le_of_ble_eq_true rfl) ⟨Nat.zero_le _, Nat.zero_le _⟩ dX6_chains_1 ?_
  refine lv_if_ne (tgt := 10) hx hb dX6_chains_4 (by decide) (fun c1 => ?_) (fun c1 => ?_)
  · have hf := if_f hf c1
    refine lv_iconst (v := (0 : Int32)) hx hb dX6_chains_10 (by decide) ?_
    refine lv_istore_n (lv' := [(2, .int (0 : Int32)), (0, .ref z0), (1, .int p1)]) hx hb dX6_chains_11 rfl hl (by decide) rfl (fun ls hl => ?_)
    refine lv_aload_n hx hb dX6_chains_12 rfl (lv_at hl 1 rfl) ?_
    refine lv_iload_n hx hb dX6_chains_13 rfl (lv_at hl 2 rfl) ?_
    refine rcVl (As := [.int p1]) (rest := []) hc k_X6_139 (c_X6_own l D C z0 o_n r_o_game o_all o_made o_own0 o_own1 z1 r_o_kept r_o_isKept r_o_threatOf r_o_threatSet o_threatMany r_o_text o_length r_o_far r_o_back r_o_hole o_holes r_o_isWon r_o_won r_o_lasts r_o_power r_o_told o_tellings p1  _ rfl) ⟨rfl, rfl, Nat.le_of_ble_eq_true rfl, Nat.le_of_ble_eq_true rfl⟩ (hP.sub [0] rfl) hK (q0 := 0) rfl rfl rfl hl rfl rfl (Nat.le_of_ble_eq_true rfl) ⟨Nat.zero_le _, Nat.zero_le _⟩ dX6_chains_14 ?_
    refine lv_lstore_n (lv' := [(3, .long (m_X6_own o_own0 o_own1 p1)), (2, .int (0 : Int32)), (0, .ref z0), (1, .int p1)]) hx hb dX6_chains_17 rfl hl (by decide) rfl (fun ls hl => ?_)
    exact w_X6_chains_c18 hc hK hP  FU (0 : Int32) (m_X6_own o_own0 o_own1 p1) hf ls (lv_sub hl [2, 1, 0] rfl)
  · have hf := if_t hf c1
    refine lv_bipush (v := (-11 : Int32)) hx hb dX6_chains_7 (by decide) ?_
    exact rRi hc (Option.some.inj hf) dX6_chains_9
abbrev R_X6_chainOf : Room := { frames := 4, cells := 0, slots := 0, locals := 96 }
def m_X6_chainOf (o_n : Int32) (o_own0 : Int64) (o_own1 : Int64) (o_near : Nat → Int64) (p1 : Int32) : Option (Int32) := (if (m_X6_isCell o_n p1) = 0 then some (-11 : Int32) else (if (m_X6_has (m_X6_free o_n o_own0 o_own1) p1) = 0 then ((m_X6_chainWith o_n o_own0 o_own1 o_near p1).bind fun u3 => ((m_X6_lowest u3).bind fun u4 => some u4)) else some (-15 : Int32)))
set_option maxHeartbeats 4000000 in
set_option maxRecDepth 100000 in
theorem c_X6_chainOf (l : Launch) (D : va_G) (C : Nat → ClassId) (z0 : Nat) (z1 : Nat) (o_n : Int32) (r_o_game : Nat) (o_all : Int32) (o_made : Int32) (o_own0 : Int64) (o_own1 : Int64) (r_o_kept : Nat) (r_o_isKept : Nat) (r_o_threatOf : Nat) (r_o_threatSet : Nat) (o_threatMany : Int32) (r_o_text : Nat) (o_length : Int32) (r_o_far : Nat) (r_o_back : Nat) (r_o_hole : Nat) (o_holes : Int32) (r_o_isWon : Nat) (r_o_won : Nat) (r_o_lasts : Nat) (r_o_power : Nat) (r_o_told : Nat) (o_tellings : Int32) (o_near : Nat → Int64) (p1 : Int32) (o : Int32) (hf : m_X6_chainOf o_n o_own0 o_own1 o_near p1 = some o) : Met l yX6_chainOf (wl yX6_chainOf cX6_chainOf 2 (some .int)) R_X6_chainOf (PR [.ref z0, .int p1] D C [cX6 z0 o_n r_o_game o_all o_made o_own0 o_own1 z1 r_o_kept r_o_isKept r_o_threatOf r_o_threatSet o_threatMany r_o_text o_length r_o_far r_o_back r_o_hole o_holes r_o_isWon r_o_won r_o_lasts r_o_power r_o_told o_tellings, aJ C z1 49 o_near]) (vp_Si (fun r => r = o)) 0 0 (fun _ => False) := by
  refine Met_ofC (by decide) ?_
  intro p e s m args below meth c hc hv
  obtain ⟨rfl, hP, hK⟩ := hv
  have hx := hc.1
  have hb := hc.2.1
  have hown := hc.2.2.2.2.1
  have hts := hc.2.2.2.2.2.1
  refine en_F rfl (fun ls hl => ?_)
  have hl : lv_has ls 2 [(0, .ref z0), (1, .int p1)] := hl
  refine lv_aload_n hx hb dX6_chainOf_0 rfl (lv_at hl 0 rfl) ?_
  refine lv_iload_n hx hb dX6_chainOf_1 rfl (lv_at hl 1 rfl) ?_
  refine rcVi (As := [.int p1]) (rest := []) hc k_X6_122 (c_X6_isCell l D C z0 o_n r_o_game o_all o_made o_own0 o_own1 z1 r_o_kept r_o_isKept r_o_threatOf r_o_threatSet o_threatMany r_o_text o_length r_o_far r_o_back r_o_hole o_holes r_o_isWon r_o_won r_o_lasts r_o_power r_o_told o_tellings p1  _ rfl) ⟨rfl, rfl, Nat.le_of_ble_eq_true rfl, Nat.le_of_ble_eq_true rfl⟩ (hP.sub [0] rfl) hK (q0 := 0) rfl rfl rfl hl rfl rfl (Nat.le_of_ble_eq_true rfl) ⟨Nat.zero_le _, Nat.zero_le _⟩ dX6_chainOf_2 ?_
  refine lv_if_ne (tgt := 11) hx hb dX6_chainOf_5 (by decide) (fun c1 => ?_) (fun c1 => ?_)
  · have hf := if_f hf c1
    refine lv_aload_n hx hb dX6_chainOf_11 rfl (lv_at hl 0 rfl) ?_
    refine rcVl (As := []) (rest := []) hc k_X6_126 (c_X6_free l D C z0 o_n r_o_game o_all o_made o_own0 o_own1 z1 r_o_kept r_o_isKept r_o_threatOf r_o_threatSet o_threatMany r_o_text o_length r_o_far r_o_back r_o_hole o_holes r_o_isWon r_o_won r_o_lasts r_o_power r_o_told o_tellings  _ rfl) ⟨rfl, rfl, Nat.le_of_ble_eq_true rfl, Nat.le_of_ble_eq_true rfl⟩ (hP.sub [0] rfl) hK (q0 := 0) rfl rfl rfl hl rfl rfl (Nat.le_of_ble_eq_true rfl) ⟨Nat.zero_le _, Nat.zero_le _⟩ dX6_chainOf_12 ?_
    refine lv_iload_n hx hb dX6_chainOf_15 rfl (lv_at hl 1 rfl) ?_
    refine rcSi (As := [.long (m_X6_free o_n o_own0 o_own1), .int p1]) (rest := []) hc k_X6_85 (c_X6_has l D C (m_X6_free o_n o_own0 o_own1) p1  _ rfl) ⟨rfl, rfl, Nat.le_of_ble_eq_true rfl, Nat.le_of_ble_eq_true rfl⟩ (hP.sub [] rfl) hK hl rfl rfl (Nat.le_of_ble_eq_true rfl) ⟨Nat.zero_le _, Nat.zero_le _⟩ dX6_chainOf_16 ?_
    refine lv_if_eq (tgt := 27) hx hb dX6_chainOf_19 (by decide) (fun c2 => ?_) (fun c2 => ?_)
    · have hf := if_t hf c2
      refine lv_aload_n hx hb dX6_chainOf_27 rfl (lv_at hl 0 rfl) ?_
      refine lv_iload_n hx hb dX6_chainOf_28 rfl (lv_at hl 1 rfl) ?_
      obtain ⟨u3, hu3, hf⟩ := bind_some hf
      refine rcVl (As := [.int p1]) (rest := []) hc k_X6_148 (c_X6_chainWith l D C z0 z1 o_n r_o_game o_all o_made o_own0 o_own1 r_o_kept r_o_isKept r_o_threatOf r_o_threatSet o_threatMany r_o_text o_length r_o_far r_o_back r_o_hole o_holes r_o_isWon r_o_won r_o_lasts r_o_power r_o_told o_tellings o_near p1  _ hu3) ⟨rfl, rfl, Nat.le_of_ble_eq_true rfl, Nat.le_of_ble_eq_true rfl⟩ (hP.sub [0, 1] rfl) hK (q0 := 0) rfl rfl rfl hl rfl rfl (Nat.le_of_ble_eq_true rfl) ⟨Nat.zero_le _, Nat.zero_le _⟩ dX6_chainOf_29 ?_
      obtain ⟨u4, hu4, hf⟩ := bind_some hf
      refine rcSi (As := [.long u3]) (rest := []) hc k_X6_144 (c_X6_lowest l D C u3  _ hu4) ⟨rfl, rfl, Nat.le_of_ble_eq_true rfl, Nat.le_of_ble_eq_true rfl⟩ (hP.sub [] rfl) hK hl rfl rfl (Nat.le_of_ble_eq_true rfl) ⟨Nat.zero_le _, Nat.zero_le _⟩ dX6_chainOf_32 ?_
      exact rRi hc (Option.some.inj hf) dX6_chainOf_35
    · have hf := if_f hf c2
      refine lv_bipush (v := (-15 : Int32)) hx hb dX6_chainOf_22 (by decide) ?_
      refine lv_goto (tgt := 35) hx hb dX6_chainOf_24 (by decide) ?_
      exact rRi hc (Option.some.inj hf) dX6_chainOf_35
  · have hf := if_t hf c1
    refine lv_bipush (v := (-11 : Int32)) hx hb dX6_chainOf_8 (by decide) ?_
    exact rRi hc (Option.some.inj hf) dX6_chainOf_10
abbrev R_X6_chain : Room := { frames := 4, cells := 0, slots := 0, locals := 96 }
def m_X6_chain_c36 (o_n : Int32) (o_own0 : Int64) (o_own1 : Int64) (o_near : Nat → Int64) (p1 : Int32)  (t0 : Int32) : Option (Int64) := (if t0 = 0 then some (-11 : Int64) else ((m_X6_chainWith o_n o_own0 o_own1 o_near p1).bind fun u3 => some u3))
set_option maxHeartbeats 4000000 in
set_option maxRecDepth 100000 in
theorem w_X6_chain_c36 {p : Program} {l : Launch} {e : Env} {s : State} {m : MethodId} {args : Array Value} {below : List Frame} {meth : Method} {c : Code} {D : va_G} {C : Nat → ClassId} {z0 : Nat} {z1 : Nat} {o_n : Int32} {r_o_game : Nat} {o_all : Int32} {o_made : Int32} {o_own0 : Int64} {o_own1 : Int64} {r_o_kept : Nat} {r_o_isKept : Nat} {r_o_threatOf : Nat} {r_o_threatSet : Nat} {o_threatMany : Int32} {r_o_text : Nat} {o_length : Int32} {r_o_far : Nat} {r_o_back : Nat} {r_o_hole : Nat} {o_holes : Int32} {r_o_isWon : Nat} {r_o_won : Nat} {r_o_lasts : Nat} {r_o_power : Nat} {r_o_told : Nat} {o_tellings : Int32} {o_near : Nat → Int64} {p1 : Int32} {o : Int64} (hc : Cx p s m args meth c yX6_chain cX6_chain 3 (some .long)) (hK : va_K D vwCl (TY C) s) (hP : va_P D vwCl [cX6 z0 o_n r_o_game o_all o_made o_own0 o_own1 z1 r_o_kept r_o_isKept r_o_threatOf r_o_threatSet o_threatMany r_o_text o_length r_o_far r_o_back r_o_hole o_holes r_o_isWon r_o_won r_o_lasts r_o_power r_o_told o_tellings, aJ C z1 49 o_near] s.heap) : ∀ (t0 : Int32), m_X6_chain_c36 o_n o_own0 o_own1 o_near p1  t0 = some o → ∀ (ls : Array Slot), lv_has ls 3 [(0, .ref z0), (1, .int p1)] → W p l e R_X6_chain s m args below meth c s.heap [] 0 0 (MQ below (vp_Sl (fun r => r = o)) args s 0 0 (fun _ => False)) (F0 m 36 ls [.int t0]) := by
  have hx := hc.1
  have hb := hc.2.1
  have hown := hc.2.2.2.2.1
  have hts := hc.2.2.2.2.2.1
  intro t0 hf ls hl
  refine lv_istore_n (lv' := [(2, .int t0), (0, .ref z0), (1, .int p1)]) hx hb dX6_chain_36 rfl hl (by decide) rfl (fun ls hl => ?_)
  refine lv_iload_n hx hb dX6_chain_37 rfl (lv_at hl 0 rfl) ?_
  refine lv_if_eq (tgt := 49) hx hb dX6_chain_38 (by decide) (fun c2 => ?_) (fun c2 => ?_)
  · have hf := if_t hf c2
    refine lv_ldc2 (v := (-11 : Int64)) hx hb hown (hts _ q_827) dX6_chain_49 ?_
    exact rRl hc (Option.some.inj hf) dX6_chain_52
  · have hf := if_f hf c2
    refine lv_aload_n hx hb dX6_chain_41 rfl (lv_at hl 1 rfl) ?_
    refine lv_iload_n hx hb dX6_chain_42 rfl (lv_at hl 2 rfl) ?_
    obtain ⟨u3, hu3, hf⟩ := bind_some hf
    refine rcVl (As := [.int p1]) (rest := []) hc k_X6_148 (c_X6_chainWith l D C z0 z1 o_n r_o_game o_all o_made o_own0 o_own1 r_o_kept r_o_isKept r_o_threatOf r_o_threatSet o_threatMany r_o_text o_length r_o_far r_o_back r_o_hole o_holes r_o_isWon r_o_won r_o_lasts r_o_power r_o_told o_tellings o_near p1  _ hu3) ⟨rfl, rfl, Nat.le_of_ble_eq_true rfl, Nat.le_of_ble_eq_true rfl⟩ (hP.sub [0, 1] rfl) hK (q0 := 0) rfl rfl rfl hl rfl rfl (Nat.le_of_ble_eq_true rfl) ⟨Nat.zero_le _, Nat.zero_le _⟩ dX6_chain_43 ?_
    refine lv_goto (tgt := 52) hx hb dX6_chain_46 (by decide) ?_
    exact rRl hc (Option.some.inj hf) dX6_chain_52
def m_X6_chain_c35 (o_n : Int32) (o_own0 : Int64) (o_own1 : Int64) (o_near : Nat → Int64) (p1 : Int32)   : Option (Int64) := (m_X6_chain_c36 o_n o_own0 o_own1 o_near p1 (0 : Int32))
set_option maxHeartbeats 4000000 in
set_option maxRecDepth 100000 in
theorem w_X6_chain_c35 {p : Program} {l : Launch} {e : Env} {s : State} {m : MethodId} {args : Array Value} {below : List Frame} {meth : Method} {c : Code} {D : va_G} {C : Nat → ClassId} {z0 : Nat} {z1 : Nat} {o_n : Int32} {r_o_game : Nat} {o_all : Int32} {o_made : Int32} {o_own0 : Int64} {o_own1 : Int64} {r_o_kept : Nat} {r_o_isKept : Nat} {r_o_threatOf : Nat} {r_o_threatSet : Nat} {o_threatMany : Int32} {r_o_text : Nat} {o_length : Int32} {r_o_far : Nat} {r_o_back : Nat} {r_o_hole : Nat} {o_holes : Int32} {r_o_isWon : Nat} {r_o_won : Nat} {r_o_lasts : Nat} {r_o_power : Nat} {r_o_told : Nat} {o_tellings : Int32} {o_near : Nat → Int64} {p1 : Int32} {o : Int64} (hc : Cx p s m args meth c yX6_chain cX6_chain 3 (some .long)) (hK : va_K D vwCl (TY C) s) (hP : va_P D vwCl [cX6 z0 o_n r_o_game o_all o_made o_own0 o_own1 z1 r_o_kept r_o_isKept r_o_threatOf r_o_threatSet o_threatMany r_o_text o_length r_o_far r_o_back r_o_hole o_holes r_o_isWon r_o_won r_o_lasts r_o_power r_o_told o_tellings, aJ C z1 49 o_near] s.heap) : m_X6_chain_c35 o_n o_own0 o_own1 o_near p1   = some o → ∀ (ls : Array Slot), lv_has ls 3 [(0, .ref z0), (1, .int p1)] → W p l e R_X6_chain s m args below meth c s.heap [] 0 0 (MQ below (vp_Sl (fun r => r = o)) args s 0 0 (fun _ => False)) (F0 m 35 ls []) := by
  have hx := hc.1
  have hb := hc.2.1
  have hown := hc.2.2.2.2.1
  have hts := hc.2.2.2.2.2.1
  intro  hf ls hl
  refine lv_iconst (v := (0 : Int32)) hx hb dX6_chain_35 (by decide) ?_
  exact w_X6_chain_c36 hc hK hP  (0 : Int32) hf ls (lv_sub hl [0, 1] rfl)
def m_X6_chain (o_n : Int32) (o_own0 : Int64) (o_own1 : Int64) (o_near : Nat → Int64) (p1 : Int32) : Option (Int64) := (if (m_X6_isCell o_n p1) = 0 then (m_X6_chain_c35 o_n o_own0 o_own1 o_near p1) else (if (m_X6_has (m_X6_free o_n o_own0 o_own1) p1) = 0 then ((m_X6_chainWith o_n o_own0 o_own1 o_near p1).bind fun u5 => ((m_X6_lowest u5).bind fun u6 => (if u6 = p1 then (m_X6_chain_c36 o_n o_own0 o_own1 o_near p1 (1 : Int32)) else (m_X6_chain_c35 o_n o_own0 o_own1 o_near p1)))) else (m_X6_chain_c35 o_n o_own0 o_own1 o_near p1)))
set_option maxHeartbeats 4000000 in
set_option maxRecDepth 100000 in
theorem c_X6_chain (l : Launch) (D : va_G) (C : Nat → ClassId) (z0 : Nat) (z1 : Nat) (o_n : Int32) (r_o_game : Nat) (o_all : Int32) (o_made : Int32) (o_own0 : Int64) (o_own1 : Int64) (r_o_kept : Nat) (r_o_isKept : Nat) (r_o_threatOf : Nat) (r_o_threatSet : Nat) (o_threatMany : Int32) (r_o_text : Nat) (o_length : Int32) (r_o_far : Nat) (r_o_back : Nat) (r_o_hole : Nat) (o_holes : Int32) (r_o_isWon : Nat) (r_o_won : Nat) (r_o_lasts : Nat) (r_o_power : Nat) (r_o_told : Nat) (o_tellings : Int32) (o_near : Nat → Int64) (p1 : Int32) (o : Int64) (hf : m_X6_chain o_n o_own0 o_own1 o_near p1 = some o) : Met l yX6_chain (wl yX6_chain cX6_chain 3 (some .long)) R_X6_chain (PR [.ref z0, .int p1] D C [cX6 z0 o_n r_o_game o_all o_made o_own0 o_own1 z1 r_o_kept r_o_isKept r_o_threatOf r_o_threatSet o_threatMany r_o_text o_length r_o_far r_o_back r_o_hole o_holes r_o_isWon r_o_won r_o_lasts r_o_power r_o_told o_tellings, aJ C z1 49 o_near]) (vp_Sl (fun r => r = o)) 0 0 (fun _ => False) := by
  refine Met_ofC (by decide) ?_
  intro p e s m args below meth c hc hv
  obtain ⟨rfl, hP, hK⟩ := hv
  have hx := hc.1
  have hb := hc.2.1
  have hown := hc.2.2.2.2.1
  have hts := hc.2.2.2.2.2.1
  refine en_F rfl (fun ls hl => ?_)
  have hl : lv_has ls 3 [(0, .ref z0), (1, .int p1)] := hl
  refine lv_aload_n hx hb dX6_chain_0 rfl (lv_at hl 0 rfl) ?_
  refine lv_iload_n hx hb dX6_chain_1 rfl (lv_at hl 1 rfl) ?_
  refine rcVi (As := [.int p1]) (rest := []) hc k_X6_122 (c_X6_isCell l D C z0 o_n r_o_game o_all o_made o_own0 o_own1 z1 r_o_kept r_o_isKept r_o_threatOf r_o_threatSet o_threatMany r_o_text o_length r_o_far r_o_back r_o_hole o_holes r_o_isWon r_o_won r_o_lasts r_o_power r_o_told o_tellings p1  _ rfl) ⟨rfl, rfl, Nat.le_of_ble_eq_true rfl, Nat.le_of_ble_eq_true rfl⟩ (hP.sub [0] rfl) hK (q0 := 0) rfl rfl rfl hl rfl rfl (Nat.le_of_ble_eq_true rfl) ⟨Nat.zero_le _, Nat.zero_le _⟩ dX6_chain_2 ?_
  refine lv_if_eq (tgt := 35) hx hb dX6_chain_5 (by decide) (fun c1 => ?_) (fun c1 => ?_)
  · have hf := if_t hf c1
    exact w_X6_chain_c35 hc hK hP   hf ls (lv_sub hl [0, 1] rfl)
  · have hf := if_f hf c1
    refine lv_aload_n hx hb dX6_chain_8 rfl (lv_at hl 0 rfl) ?_
    refine rcVl (As := []) (rest := []) hc k_X6_126 (c_X6_free l D C z0 o_n r_o_game o_all o_made o_own0 o_own1 z1 r_o_kept r_o_isKept r_o_threatOf r_o_threatSet o_threatMany r_o_text o_length r_o_far r_o_back r_o_hole o_holes r_o_isWon r_o_won r_o_lasts r_o_power r_o_told o_tellings  _ rfl) ⟨rfl, rfl, Nat.le_of_ble_eq_true rfl, Nat.le_of_ble_eq_true rfl⟩ (hP.sub [0] rfl) hK (q0 := 0) rfl rfl rfl hl rfl rfl (Nat.le_of_ble_eq_true rfl) ⟨Nat.zero_le _, Nat.zero_le _⟩ dX6_chain_9 ?_
    refine lv_iload_n hx hb dX6_chain_12 rfl (lv_at hl 1 rfl) ?_
    refine rcSi (As := [.long (m_X6_free o_n o_own0 o_own1), .int p1]) (rest := []) hc k_X6_85 (c_X6_has l D C (m_X6_free o_n o_own0 o_own1) p1  _ rfl) ⟨rfl, rfl, Nat.le_of_ble_eq_true rfl, Nat.le_of_ble_eq_true rfl⟩ (hP.sub [] rfl) hK hl rfl rfl (Nat.le_of_ble_eq_true rfl) ⟨Nat.zero_le _, Nat.zero_le _⟩ dX6_chain_13 ?_
    refine lv_if_ne (tgt := 35) hx hb dX6_chain_16 (by decide) (fun c4 => ?_) (fun c4 => ?_)
    · have hf := if_f hf c4
      exact w_X6_chain_c35 hc hK hP   hf ls (lv_sub hl [0, 1] rfl)
    · have hf := if_t hf c4
      refine lv_aload_n hx hb dX6_chain_19 rfl (lv_at hl 0 rfl) ?_
      refine lv_iload_n hx hb dX6_chain_20 rfl (lv_at hl 1 rfl) ?_
      obtain ⟨u5, hu5, hf⟩ := bind_some hf
      refine rcVl (As := [.int p1]) (rest := []) hc k_X6_148 (c_X6_chainWith l D C z0 z1 o_n r_o_game o_all o_made o_own0 o_own1 r_o_kept r_o_isKept r_o_threatOf r_o_threatSet o_threatMany r_o_text o_length r_o_far r_o_back r_o_hole o_holes r_o_isWon r_o_won r_o_lasts r_o_power r_o_told o_tellings o_near p1  _ hu5) ⟨rfl, rfl, Nat.le_of_ble_eq_true rfl, Nat.le_of_ble_eq_true rfl⟩ (hP.sub [0, 1] rfl) hK (q0 := 0) rfl rfl rfl hl rfl rfl (Nat.le_of_ble_eq_true rfl) ⟨Nat.zero_le _, Nat.zero_le _⟩ dX6_chain_21 ?_
      obtain ⟨u6, hu6, hf⟩ := bind_some hf
      refine rcSi (As := [.long u5]) (rest := []) hc k_X6_144 (c_X6_lowest l D C u5  _ hu6) ⟨rfl, rfl, Nat.le_of_ble_eq_true rfl, Nat.le_of_ble_eq_true rfl⟩ (hP.sub [] rfl) hK hl rfl rfl (Nat.le_of_ble_eq_true rfl) ⟨Nat.zero_le _, Nat.zero_le _⟩ dX6_chain_24 ?_
      refine lv_iload_n hx hb dX6_chain_27 rfl (lv_at hl 1 rfl) ?_
      refine lv_icmp_ne (tgt := 35) hx hb dX6_chain_28 (by decide) (fun c7 => ?_) (fun c7 => ?_)
      · have hf := if_f hf c7
        exact w_X6_chain_c35 hc hK hP   hf ls (lv_sub hl [0, 1] rfl)
      · have hf := if_t hf c7
        refine lv_iconst (v := (1 : Int32)) hx hb dX6_chain_31 (by decide) ?_
        refine lv_goto (tgt := 36) hx hb dX6_chain_32 (by decide) ?_
        exact w_X6_chain_c36 hc hK hP  (1 : Int32) hf ls (lv_sub hl [0, 1] rfl)
abbrev R_X6_levels_far : Room := { frames := 3, cells := 0, slots := 0, locals := 75 }
def m_X6_levels_far_c106  (k61 : Int64 → Int64 → Int32 → Int32 → (Nat → Int32) → Option ((Nat → Int32))) (v4 : Int64) (v6 : Int64) (v8 : Int32) (v11 : Int32) (t0 : Int32) (t1 : Int32) (o_far : Nat → Int32) : Option ((Nat → Int32)) := (if okI t1 49 = true then (k61 v4 v6 v8 (v11 + (1 : Int32)) (upd o_far t1.toNatClampNeg t0)) else none)
set_option maxHeartbeats 4000000 in
set_option maxRecDepth 100000 in
theorem w_X6_levels_far_c106 {p : Program} {l : Launch} {e : Env} {s : State} {m : MethodId} {args : Array Value} {below : List Frame} {meth : Method} {c : Code} {D : va_G} {C : Nat → ClassId} {A : Nat → Prop} {a0 : Nat} {a1 : Nat} {a2 : Nat} {a3 : Nat} {a4 : Nat} {a5 : Nat} {a6 : Nat} {a7 : Nat} {a8 : Nat} {a9 : Nat} {a10 : Nat} {a11 : Nat} {a12 : Nat} {a13 : Nat} {a14 : Nat} {a15 : Nat} {o_n : Int32} {o_all : Int32} {o_made : Int32} {o_own0 : Int64} {o_own1 : Int64} {o_threatMany : Int32} {o_length : Int32} {o_holes : Int32} {o_tellings : Int32} {o_game : Nat → Int32} {o_near : Nat → Int64} {o_kept : Nat → Int32} {o_isKept : Nat → Int32} {o_threatOf : Nat → Int32} {o_threatSet : Nat → Int64} {o_text : Nat → Int32} {o_back : Nat → Int32} {o_hole : Nat → Int32} {o_isWon : Nat → Int32} {o_won : Nat → Int32} {o_lasts : Nat → Int32} {o_power : Nat → Int32} {o_told : Nat → Int32} {p2 : Int32} {o : (Nat → Int32)} (hc : Cx p s m args meth c yX6_levels cX6_levels 12 none) (hK : va_K D vwCl (TY C) s) (hA : ∀ q : Nat, s.heap.size ≤ q → A q) (hO : va_P D vwCl ([] : va_W) s.heap) (hN : ∀ q ∈ ([] : va_W), ¬ A q.1) (k61 : Int64 → Int64 → Int32 → Int32 → (Nat → Int32) → Option ((Nat → Int32))) (hk61 : ∀ (v4 : Int64) (v6 : Int64) (v8 : Int32) (v11 : Int32) (o_far : Nat → Int32), k61 v4 v6 v8 v11 o_far = some o → ∀ (H : Heap) (locs : List Loc), va_P D vwCl (wX6 C a0 a1 a2 a3 a4 a5 a6 a7 a8 a9 a10 a11 a12 a13 a14 a15 o_n o_all o_made o_own0 o_own1 o_threatMany o_length o_holes o_tellings o_game o_near o_kept o_isKept o_threatOf o_threatSet o_text o_far o_back o_hole o_isWon o_won o_lasts o_power o_told) H → va_D A (wX6 C a0 a1 a2 a3 a4 a5 a6 a7 a8 a9 a10 a11 a12 a13 a14 a15 o_n o_all o_made o_own0 o_own1 o_threatMany o_length o_holes o_tellings o_game o_near o_kept o_isKept o_threatOf o_threatSet o_text o_far o_back o_hole o_isWon o_won o_lasts o_power o_told) → va_S A s.heap H locs → ∀ (ls : Array Slot), lv_has ls 12 [(0, .ref a0), (2, .int p2), (3, .ref a8), (4, .long v4), (6, .long v6), (8, .int v8), (11, .int v11)] → W p l e R_X6_levels_far s m args below meth c H locs 0 0 (MQ below (QWv D (wX6 C a0 a1 a2 a3 a4 a5 a6 a7 a8 a9 a10 a11 a12 a13 a14 a15 o_n o_all o_made o_own0 o_own1 o_threatMany o_length o_holes o_tellings o_game o_near o_kept o_isKept o_threatOf o_threatSet o_text o o_back o_hole o_isWon o_won o_lasts o_power o_told) A) args s 0 0 A) (F0 m 61 ls [])) : ∀ (v4 : Int64) (v6 : Int64) (v8 : Int32) (v11 : Int32) (t0 : Int32) (t1 : Int32) (o_far : Nat → Int32), m_X6_levels_far_c106  k61 v4 v6 v8 v11 t0 t1 o_far = some o → ∀ (H : Heap) (locs : List Loc), va_P D vwCl (wX6 C a0 a1 a2 a3 a4 a5 a6 a7 a8 a9 a10 a11 a12 a13 a14 a15 o_n o_all o_made o_own0 o_own1 o_threatMany o_length o_holes o_tellings o_game o_near o_kept o_isKept o_threatOf o_threatSet o_text o_far o_back o_hole o_isWon o_won o_lasts o_power o_told) H → va_D A (wX6 C a0 a1 a2 a3 a4 a5 a6 a7 a8 a9 a10 a11 a12 a13 a14 a15 o_n o_all o_made o_own0 o_own1 o_threatMany o_length o_holes o_tellings o_game o_near o_kept o_isKept o_threatOf o_threatSet o_text o_far o_back o_hole o_isWon o_won o_lasts o_power o_told) → va_S A s.heap H locs → ∀ (ls : Array Slot), lv_has ls 12 [(0, .ref a0), (2, .int p2), (3, .ref a8), (4, .long v4), (6, .long v6), (8, .int v8), (11, .int v11)] → W p l e R_X6_levels_far s m args below meth c H locs 0 0 (MQ below (QWv D (wX6 C a0 a1 a2 a3 a4 a5 a6 a7 a8 a9 a10 a11 a12 a13 a14 a15 o_n o_all o_made o_own0 o_own1 o_threatMany o_length o_holes o_tellings o_game o_near o_kept o_isKept o_threatOf o_threatSet o_text o o_back o_hole o_isWon o_won o_lasts o_power o_told) A) args s 0 0 A) (F0 m 106 ls [.int t0, .int t1, .ref a8]) := by
  have hx := hc.1
  have hb := hc.2.1
  have hown := hc.2.2.2.2.1
  have hts := hc.2.2.2.2.2.1
  intro v4 v6 v8 v11 t0 t1 o_far hf H locs hP hD hS ls hl
  obtain ⟨h12, hf⟩ := ok_t hf
  refine va_iast hx hb hK hP hD hS 8 0 rfl rfl (okI_in h12) dX6_levels_106 (fun H locs hP hD hS => ?_)
  have hP : va_P D vwCl (wX6 C a0 a1 a2 a3 a4 a5 a6 a7 a8 a9 a10 a11 a12 a13 a14 a15 o_n o_all o_made o_own0 o_own1 o_threatMany o_length o_holes o_tellings o_game o_near o_kept o_isKept o_threatOf o_threatSet o_text (upd o_far t1.toNatClampNeg t0) o_back o_hole o_isWon o_won o_lasts o_power o_told) H := hP
  have hD : va_D A (wX6 C a0 a1 a2 a3 a4 a5 a6 a7 a8 a9 a10 a11 a12 a13 a14 a15 o_n o_all o_made o_own0 o_own1 o_threatMany o_length o_holes o_tellings o_game o_near o_kept o_isKept o_threatOf o_threatSet o_text (upd o_far t1.toNatClampNeg t0) o_back o_hole o_isWon o_won o_lasts o_power o_told) := hD
  refine lv_iinc (v := (v11 + (1 : Int32))) (lv' := [(11, .int (v11 + (1 : Int32))), (0, .ref a0), (2, .int p2), (3, .ref a8), (4, .long v4), (6, .long v6), (8, .int v8)]) hx hb dX6_levels_107 hl (k := 6) rfl rfl (by decide) rfl (fun ls hl => ?_)
  refine lv_goto (tgt := 61) hx hb dX6_levels_110 (by decide) ?_
  exact hk61 v4 v6 v8 (v11 + (1 : Int32)) (upd o_far t1.toNatClampNeg t0) hf _ _ hP hD hS ls (lv_sub hl [1, 2, 3, 4, 5, 6, 0] rfl)
def m_X6_levels_far_c102  (k61 : Int64 → Int64 → Int32 → Int32 → (Nat → Int32) → Option ((Nat → Int32))) (v4 : Int64) (v6 : Int64) (v8 : Int32) (v11 : Int32) (t0 : Int32) (o_far : Nat → Int32) : Option ((Nat → Int32)) := (if okI v11 49 = true then (m_X6_levels_far_c106 k61 v4 v6 v8 v11 (o_far v11.toNatClampNeg) t0 o_far) else none)
set_option maxHeartbeats 4000000 in
set_option maxRecDepth 100000 in
theorem w_X6_levels_far_c102 {p : Program} {l : Launch} {e : Env} {s : State} {m : MethodId} {args : Array Value} {below : List Frame} {meth : Method} {c : Code} {D : va_G} {C : Nat → ClassId} {A : Nat → Prop} {a0 : Nat} {a1 : Nat} {a2 : Nat} {a3 : Nat} {a4 : Nat} {a5 : Nat} {a6 : Nat} {a7 : Nat} {a8 : Nat} {a9 : Nat} {a10 : Nat} {a11 : Nat} {a12 : Nat} {a13 : Nat} {a14 : Nat} {a15 : Nat} {o_n : Int32} {o_all : Int32} {o_made : Int32} {o_own0 : Int64} {o_own1 : Int64} {o_threatMany : Int32} {o_length : Int32} {o_holes : Int32} {o_tellings : Int32} {o_game : Nat → Int32} {o_near : Nat → Int64} {o_kept : Nat → Int32} {o_isKept : Nat → Int32} {o_threatOf : Nat → Int32} {o_threatSet : Nat → Int64} {o_text : Nat → Int32} {o_back : Nat → Int32} {o_hole : Nat → Int32} {o_isWon : Nat → Int32} {o_won : Nat → Int32} {o_lasts : Nat → Int32} {o_power : Nat → Int32} {o_told : Nat → Int32} {p2 : Int32} {o : (Nat → Int32)} (hc : Cx p s m args meth c yX6_levels cX6_levels 12 none) (hK : va_K D vwCl (TY C) s) (hA : ∀ q : Nat, s.heap.size ≤ q → A q) (hO : va_P D vwCl ([] : va_W) s.heap) (hN : ∀ q ∈ ([] : va_W), ¬ A q.1) (k61 : Int64 → Int64 → Int32 → Int32 → (Nat → Int32) → Option ((Nat → Int32))) (hk61 : ∀ (v4 : Int64) (v6 : Int64) (v8 : Int32) (v11 : Int32) (o_far : Nat → Int32), k61 v4 v6 v8 v11 o_far = some o → ∀ (H : Heap) (locs : List Loc), va_P D vwCl (wX6 C a0 a1 a2 a3 a4 a5 a6 a7 a8 a9 a10 a11 a12 a13 a14 a15 o_n o_all o_made o_own0 o_own1 o_threatMany o_length o_holes o_tellings o_game o_near o_kept o_isKept o_threatOf o_threatSet o_text o_far o_back o_hole o_isWon o_won o_lasts o_power o_told) H → va_D A (wX6 C a0 a1 a2 a3 a4 a5 a6 a7 a8 a9 a10 a11 a12 a13 a14 a15 o_n o_all o_made o_own0 o_own1 o_threatMany o_length o_holes o_tellings o_game o_near o_kept o_isKept o_threatOf o_threatSet o_text o_far o_back o_hole o_isWon o_won o_lasts o_power o_told) → va_S A s.heap H locs → ∀ (ls : Array Slot), lv_has ls 12 [(0, .ref a0), (2, .int p2), (3, .ref a8), (4, .long v4), (6, .long v6), (8, .int v8), (11, .int v11)] → W p l e R_X6_levels_far s m args below meth c H locs 0 0 (MQ below (QWv D (wX6 C a0 a1 a2 a3 a4 a5 a6 a7 a8 a9 a10 a11 a12 a13 a14 a15 o_n o_all o_made o_own0 o_own1 o_threatMany o_length o_holes o_tellings o_game o_near o_kept o_isKept o_threatOf o_threatSet o_text o o_back o_hole o_isWon o_won o_lasts o_power o_told) A) args s 0 0 A) (F0 m 61 ls [])) : ∀ (v4 : Int64) (v6 : Int64) (v8 : Int32) (v11 : Int32) (t0 : Int32) (o_far : Nat → Int32), m_X6_levels_far_c102  k61 v4 v6 v8 v11 t0 o_far = some o → ∀ (H : Heap) (locs : List Loc), va_P D vwCl (wX6 C a0 a1 a2 a3 a4 a5 a6 a7 a8 a9 a10 a11 a12 a13 a14 a15 o_n o_all o_made o_own0 o_own1 o_threatMany o_length o_holes o_tellings o_game o_near o_kept o_isKept o_threatOf o_threatSet o_text o_far o_back o_hole o_isWon o_won o_lasts o_power o_told) H → va_D A (wX6 C a0 a1 a2 a3 a4 a5 a6 a7 a8 a9 a10 a11 a12 a13 a14 a15 o_n o_all o_made o_own0 o_own1 o_threatMany o_length o_holes o_tellings o_game o_near o_kept o_isKept o_threatOf o_threatSet o_text o_far o_back o_hole o_isWon o_won o_lasts o_power o_told) → va_S A s.heap H locs → ∀ (ls : Array Slot), lv_has ls 12 [(0, .ref a0), (2, .int p2), (3, .ref a8), (4, .long v4), (6, .long v6), (8, .int v8), (11, .int v11)] → W p l e R_X6_levels_far s m args below meth c H locs 0 0 (MQ below (QWv D (wX6 C a0 a1 a2 a3 a4 a5 a6 a7 a8 a9 a10 a11 a12 a13 a14 a15 o_n o_all o_made o_own0 o_own1 o_threatMany o_length o_holes o_tellings o_game o_near o_kept o_isKept o_threatOf o_threatSet o_text o o_back o_hole o_isWon o_won o_lasts o_power o_told) A) args s 0 0 A) (F0 m 102 ls [.int t0, .ref a8]) := by
  have hx := hc.1
  have hb := hc.2.1
  have hown := hc.2.2.2.2.1
  have hts := hc.2.2.2.2.2.1
  intro v4 v6 v8 v11 t0 o_far hf H locs hP hD hS ls hl
  refine lv_aload_n hx hb dX6_levels_102 rfl (lv_at hl 2 rfl) ?_
  refine lv_iload hx hb dX6_levels_103 (lv_at hl 6 rfl) ?_
  obtain ⟨h11, hf⟩ := ok_t hf
  refine va_iald hx hb hK hP 8 0 rfl rfl (okI_in h11) dX6_levels_105 ?_
  exact w_X6_levels_far_c106 hc hK hA hO hN k61 hk61 v4 v6 v8 v11 (o_far v11.toNatClampNeg) t0 o_far hf _ _ hP hD hS ls (lv_sub hl [0, 1, 2, 3, 4, 5, 6] rfl)
def m_X6_levels_far_c61 (o_n : Int32) (o_own0 : Int64) (o_own1 : Int64) (o_near : Nat → Int64) (p2 : Int32) (k50 : Int64 → Int64 → Int32 → Int64 → (Nat → Int32) → Option ((Nat → Int32))) : Nat → Int64 → Int64 → Int32 → Int32 → (Nat → Int32) → Option ((Nat → Int32))
  | 0, _, _, _, _, _ => none
  | n + 1, v4, v6, v8, v11, o_far => (if (o_n * o_n) ≤ v11 then ((m_X6_around o_n o_near v6).bind fun u6 => ((m_X6_edge o_n p2).bind fun u7 => ((m_X6_around o_n o_near (v6 ||| ((u6 ||| u7) &&& (m_X6_free o_n o_own0 o_own1)))).bind fun u8 => ((m_X6_reach o_n o_near u8 v4).bind fun u9 => (k50 v4 ((v6 ||| ((u6 ||| u7) &&& (m_X6_free o_n o_own0 o_own1))) ||| u9) (v8 + (1 : Int32)) v6 o_far))))) else (if (m_X6_has v6 v11) = 0 then (m_X6_levels_far_c102 (m_X6_levels_far_c61 o_n o_own0 o_own1 o_near p2 k50 n) v4 v6 v8 v11 v11 o_far) else (if okI v11 49 = true then (if (o_far v11.toNatClampNeg) = (100 : Int32) then (m_X6_levels_far_c106 (m_X6_levels_far_c61 o_n o_own0 o_own1 o_near p2 k50 n) v4 v6 v8 v11 v8 v11 o_far) else (m_X6_levels_far_c102 (m_X6_levels_far_c61 o_n o_own0 o_own1 o_near p2 k50 n) v4 v6 v8 v11 v11 o_far)) else none)))
set_option maxHeartbeats 4000000 in
set_option maxRecDepth 100000 in
theorem w_X6_levels_far_c61 {p : Program} {l : Launch} {e : Env} {s : State} {m : MethodId} {args : Array Value} {below : List Frame} {meth : Method} {c : Code} {D : va_G} {C : Nat → ClassId} {A : Nat → Prop} {a0 : Nat} {a1 : Nat} {a2 : Nat} {a3 : Nat} {a4 : Nat} {a5 : Nat} {a6 : Nat} {a7 : Nat} {a8 : Nat} {a9 : Nat} {a10 : Nat} {a11 : Nat} {a12 : Nat} {a13 : Nat} {a14 : Nat} {a15 : Nat} {o_n : Int32} {o_all : Int32} {o_made : Int32} {o_own0 : Int64} {o_own1 : Int64} {o_threatMany : Int32} {o_length : Int32} {o_holes : Int32} {o_tellings : Int32} {o_game : Nat → Int32} {o_near : Nat → Int64} {o_kept : Nat → Int32} {o_isKept : Nat → Int32} {o_threatOf : Nat → Int32} {o_threatSet : Nat → Int64} {o_text : Nat → Int32} {o_back : Nat → Int32} {o_hole : Nat → Int32} {o_isWon : Nat → Int32} {o_won : Nat → Int32} {o_lasts : Nat → Int32} {o_power : Nat → Int32} {o_told : Nat → Int32} {p2 : Int32} {o : (Nat → Int32)} (hc : Cx p s m args meth c yX6_levels cX6_levels 12 none) (hK : va_K D vwCl (TY C) s) (hA : ∀ q : Nat, s.heap.size ≤ q → A q) (hO : va_P D vwCl ([] : va_W) s.heap) (hN : ∀ q ∈ ([] : va_W), ¬ A q.1) (k50 : Int64 → Int64 → Int32 → Int64 → (Nat → Int32) → Option ((Nat → Int32))) (hk50 : ∀ (v4 : Int64) (v6 : Int64) (v8 : Int32) (v9 : Int64) (o_far : Nat → Int32), k50 v4 v6 v8 v9 o_far = some o → ∀ (H : Heap) (locs : List Loc), va_P D vwCl (wX6 C a0 a1 a2 a3 a4 a5 a6 a7 a8 a9 a10 a11 a12 a13 a14 a15 o_n o_all o_made o_own0 o_own1 o_threatMany o_length o_holes o_tellings o_game o_near o_kept o_isKept o_threatOf o_threatSet o_text o_far o_back o_hole o_isWon o_won o_lasts o_power o_told) H → va_D A (wX6 C a0 a1 a2 a3 a4 a5 a6 a7 a8 a9 a10 a11 a12 a13 a14 a15 o_n o_all o_made o_own0 o_own1 o_threatMany o_length o_holes o_tellings o_game o_near o_kept o_isKept o_threatOf o_threatSet o_text o_far o_back o_hole o_isWon o_won o_lasts o_power o_told) → va_S A s.heap H locs → ∀ (ls : Array Slot), lv_has ls 12 [(0, .ref a0), (2, .int p2), (3, .ref a8), (4, .long v4), (6, .long v6), (8, .int v8), (9, .long v9)] → W p l e R_X6_levels_far s m args below meth c H locs 0 0 (MQ below (QWv D (wX6 C a0 a1 a2 a3 a4 a5 a6 a7 a8 a9 a10 a11 a12 a13 a14 a15 o_n o_all o_made o_own0 o_own1 o_threatMany o_length o_holes o_tellings o_game o_near o_kept o_isKept o_threatOf o_threatSet o_text o o_back o_hole o_isWon o_won o_lasts o_power o_told) A) args s 0 0 A) (F0 m 50 ls [])) : ∀ (n : Nat), ∀ (v4 : Int64) (v6 : Int64) (v8 : Int32) (v11 : Int32) (o_far : Nat → Int32), m_X6_levels_far_c61 o_n o_own0 o_own1 o_near p2 k50 n v4 v6 v8 v11 o_far = some o → ∀ (H : Heap) (locs : List Loc), va_P D vwCl (wX6 C a0 a1 a2 a3 a4 a5 a6 a7 a8 a9 a10 a11 a12 a13 a14 a15 o_n o_all o_made o_own0 o_own1 o_threatMany o_length o_holes o_tellings o_game o_near o_kept o_isKept o_threatOf o_threatSet o_text o_far o_back o_hole o_isWon o_won o_lasts o_power o_told) H → va_D A (wX6 C a0 a1 a2 a3 a4 a5 a6 a7 a8 a9 a10 a11 a12 a13 a14 a15 o_n o_all o_made o_own0 o_own1 o_threatMany o_length o_holes o_tellings o_game o_near o_kept o_isKept o_threatOf o_threatSet o_text o_far o_back o_hole o_isWon o_won o_lasts o_power o_told) → va_S A s.heap H locs → ∀ (ls : Array Slot), lv_has ls 12 [(0, .ref a0), (2, .int p2), (3, .ref a8), (4, .long v4), (6, .long v6), (8, .int v8), (11, .int v11)] → W p l e R_X6_levels_far s m args below meth c H locs 0 0 (MQ below (QWv D (wX6 C a0 a1 a2 a3 a4 a5 a6 a7 a8 a9 a10 a11 a12 a13 a14 a15 o_n o_all o_made o_own0 o_own1 o_threatMany o_length o_holes o_tellings o_game o_near o_kept o_isKept o_threatOf o_threatSet o_text o o_back o_hole o_isWon o_won o_lasts o_power o_told) A) args s 0 0 A) (F0 m 61 ls []) := by
  have hx := hc.1
  have hb := hc.2.1
  have hown := hc.2.2.2.2.1
  have hts := hc.2.2.2.2.2.1
  intro n
  induction n with
  | zero =>
    intro v4 v6 v8 v11 o_far hf
    exact no_some hf
  | succ n ih =>
    intro v4 v6 v8 v11 o_far hf H locs hP hD hS ls hl
    refine lv_iload hx hb dX6_levels_61 (lv_at hl 6 rfl) ?_
    refine lv_aload_n hx hb dX6_levels_63 rfl (lv_at hl 0 rfl) ?_
    refine va_get (D := D) (ci := 6) (v := .int o_n) (C := RX6) (T := TX6) (N := 24) hx hb hts inX6 hown hK hP 0 rfl rfl 0 (by decide) (hts _ q_654) (fun _ h9 => h9) rfl dX6_levels_64 ?_
    refine lv_aload_n hx hb dX6_levels_67 rfl (lv_at hl 0 rfl) ?_
    refine va_get (D := D) (ci := 6) (v := .int o_n) (C := RX6) (T := TX6) (N := 24) hx hb hts inX6 hown hK hP 0 rfl rfl 0 (by decide) (hts _ q_654) (fun _ h9 => h9) rfl dX6_levels_68 ?_
    refine lv_imul hx hb dX6_levels_71 ?_
    refine lv_icmp_ge (tgt := 113) hx hb dX6_levels_72 (by decide) (fun c5 => ?_) (fun c5 => ?_)
    · have hf := if_t hf c5
      refine lv_lload hx hb dX6_levels_113 (lv_at hl 4 rfl) ?_
      refine lv_lstore (lv' := [(9, .long v6), (0, .ref a0), (2, .int p2), (3, .ref a8), (4, .long v4), (6, .long v6), (8, .int v8), (11, .int v11)]) hx hb dX6_levels_115 hl (by decide) rfl (fun ls hl => ?_)
      refine lv_lload hx hb dX6_levels_117 (lv_at hl 5 rfl) ?_
      refine lv_aload_n hx hb dX6_levels_119 rfl (lv_at hl 1 rfl) ?_
      refine lv_lload hx hb dX6_levels_120 (lv_at hl 5 rfl) ?_
      obtain ⟨u6, hu6, hf⟩ := bind_some hf
      refine rcVl (As := [.long v6]) (rest := [.long v6]) hc k_X6_89 (c_X6_around l D C a0 a2 o_n a1 o_all o_made o_own0 o_own1 a3 a4 a5 a6 o_threatMany a7 o_length a8 a9 a10 o_holes a11 a12 a13 a14 a15 o_tellings o_near v6  _ hu6) ⟨rfl, rfl, Nat.le_of_ble_eq_true rfl, Nat.le_of_ble_eq_true rfl⟩ (hP.sub [0, 2] rfl) hK (q0 := 0) rfl rfl rfl hl rfl rfl (Nat.le_of_ble_eq_true rfl) ⟨Nat.zero_le _, Nat.zero_le _⟩ dX6_levels_122 ?_
      refine lv_aload_n hx hb dX6_levels_125 rfl (lv_at hl 1 rfl) ?_
      refine lv_iload_n hx hb dX6_levels_126 rfl (lv_at hl 2 rfl) ?_
      obtain ⟨u7, hu7, hf⟩ := bind_some hf
      refine rcVl (As := [.int p2]) (rest := [.long u6, .long v6]) hc k_X6_93 (c_X6_edge l D C a0 o_n a1 o_all o_made o_own0 o_own1 a2 a3 a4 a5 a6 o_threatMany a7 o_length a8 a9 a10 o_holes a11 a12 a13 a14 a15 o_tellings p2  _ hu7) ⟨rfl, rfl, Nat.le_of_ble_eq_true rfl, Nat.le_of_ble_eq_true rfl⟩ (hP.sub [0] rfl) hK (q0 := 0) rfl rfl rfl hl rfl rfl (Nat.le_of_ble_eq_true rfl) ⟨Nat.zero_le _, Nat.zero_le _⟩ dX6_levels_127 ?_
      refine lv_lor hx hb dX6_levels_130 ?_
      refine lv_aload_n hx hb dX6_levels_131 rfl (lv_at hl 1 rfl) ?_
      refine rcVl (As := []) (rest := [.long (u6 ||| u7), .long v6]) hc k_X6_126 (c_X6_free l D C a0 o_n a1 o_all o_made o_own0 o_own1 a2 a3 a4 a5 a6 o_threatMany a7 o_length a8 a9 a10 o_holes a11 a12 a13 a14 a15 o_tellings  _ rfl) ⟨rfl, rfl, Nat.le_of_ble_eq_true rfl, Nat.le_of_ble_eq_true rfl⟩ (hP.sub [0] rfl) hK (q0 := 0) rfl rfl rfl hl rfl rfl (Nat.le_of_ble_eq_true rfl) ⟨Nat.zero_le _, Nat.zero_le _⟩ dX6_levels_132 ?_
      refine lv_land hx hb dX6_levels_135 ?_
      refine lv_lor hx hb dX6_levels_136 ?_
      refine lv_lstore (lv' := [(6, .long (v6 ||| ((u6 ||| u7) &&& (m_X6_free o_n o_own0 o_own1)))), (9, .long v6), (0, .ref a0), (2, .int p2), (3, .ref a8), (4, .long v4), (8, .int v8), (11, .int v11)]) hx hb dX6_levels_137 hl (by decide) rfl (fun ls hl => ?_)
      refine lv_lload hx hb dX6_levels_139 (lv_at hl 0 rfl) ?_
      refine lv_aload_n hx hb dX6_levels_141 rfl (lv_at hl 2 rfl) ?_
      refine lv_aload_n hx hb dX6_levels_142 rfl (lv_at hl 2 rfl) ?_
      refine lv_lload hx hb dX6_levels_143 (lv_at hl 0 rfl) ?_
      obtain ⟨u8, hu8, hf⟩ := bind_some hf
      refine rcVl (As := [.long (v6 ||| ((u6 ||| u7) &&& (m_X6_free o_n o_own0 o_own1)))]) (rest := [.ref a0, .long (v6 ||| ((u6 ||| u7) &&& (m_X6_free o_n o_own0 o_own1)))]) hc k_X6_89 (c_X6_around l D C a0 a2 o_n a1 o_all o_made o_own0 o_own1 a3 a4 a5 a6 o_threatMany a7 o_length a8 a9 a10 o_holes a11 a12 a13 a14 a15 o_tellings o_near (v6 ||| ((u6 ||| u7) &&& (m_X6_free o_n o_own0 o_own1)))  _ hu8) ⟨rfl, rfl, Nat.le_of_ble_eq_true rfl, Nat.le_of_ble_eq_true rfl⟩ (hP.sub [0, 2] rfl) hK (q0 := 0) rfl rfl rfl hl rfl rfl (Nat.le_of_ble_eq_true rfl) ⟨Nat.zero_le _, Nat.zero_le _⟩ dX6_levels_145 ?_
      refine lv_lload hx hb dX6_levels_148 (lv_at hl 5 rfl) ?_
      obtain ⟨u9, hu9, hf⟩ := bind_some hf
      refine rcVl (As := [.long u8, .long v4]) (rest := [.long (v6 ||| ((u6 ||| u7) &&& (m_X6_free o_n o_own0 o_own1)))]) hc k_X6_97 (c_X6_reach l D C a0 a2 o_n a1 o_all o_made o_own0 o_own1 a3 a4 a5 a6 o_threatMany a7 o_length a8 a9 a10 o_holes a11 a12 a13 a14 a15 o_tellings o_near u8 v4  _ hu9) ⟨rfl, rfl, Nat.le_of_ble_eq_true rfl, Nat.le_of_ble_eq_true rfl⟩ (hP.sub [0, 2] rfl) hK (q0 := 0) rfl rfl rfl hl rfl rfl (Nat.le_of_ble_eq_true rfl) ⟨Nat.zero_le _, Nat.zero_le _⟩ dX6_levels_150 ?_
      refine lv_lor hx hb dX6_levels_153 ?_
      refine lv_lstore (lv' := [(6, .long ((v6 ||| ((u6 ||| u7) &&& (m_X6_free o_n o_own0 o_own1))) ||| u9)), (9, .long v6), (0, .ref a0), (2, .int p2), (3, .ref a8), (4, .long v4), (8, .int v8), (11, .int v11)]) hx hb dX6_levels_154 hl (by decide) rfl (fun ls hl => ?_)
      refine lv_iinc (v := (v8 + (1 : Int32))) (lv' := [(8, .int (v8 + (1 : Int32))), (6, .long ((v6 ||| ((u6 ||| u7) &&& (m_X6_free o_n o_own0 o_own1))) ||| u9)), (9, .long v6), (0, .ref a0), (2, .int p2), (3, .ref a8), (4, .long v4), (11, .int v11)]) hx hb dX6_levels_156 hl (k := 6) rfl rfl (by decide) rfl (fun ls hl => ?_)
      refine lv_goto (tgt := 50) hx hb dX6_levels_159 (by decide) ?_
      exact hk50 v4 ((v6 ||| ((u6 ||| u7) &&& (m_X6_free o_n o_own0 o_own1))) ||| u9) (v8 + (1 : Int32)) v6 o_far hf _ _ hP hD hS ls (lv_sub hl [3, 4, 5, 6, 1, 0, 2] rfl)
    · have hf := if_f hf c5
      refine lv_aload_n hx hb dX6_levels_75 rfl (lv_at hl 2 rfl) ?_
      refine lv_iload hx hb dX6_levels_76 (lv_at hl 6 rfl) ?_
      refine lv_lload hx hb dX6_levels_78 (lv_at hl 4 rfl) ?_
      refine lv_iload hx hb dX6_levels_80 (lv_at hl 6 rfl) ?_
      refine rcSi (As := [.long v6, .int v11]) (rest := [.int v11, .ref a8]) hc k_X6_85 (c_X6_has l D C v6 v11  _ rfl) ⟨rfl, rfl, Nat.le_of_ble_eq_true rfl, Nat.le_of_ble_eq_true rfl⟩ (hP.sub [] rfl) hK hl rfl rfl (Nat.le_of_ble_eq_true rfl) ⟨Nat.zero_le _, Nat.zero_le _⟩ dX6_levels_82 ?_
      refine lv_if_eq (tgt := 102) hx hb dX6_levels_85 (by decide) (fun c10 => ?_) (fun c10 => ?_)
      · have hf := if_t hf c10
        exact w_X6_levels_far_c102 hc hK hA hO hN (m_X6_levels_far_c61 o_n o_own0 o_own1 o_near p2 k50 n) ih v4 v6 v8 v11 v11 o_far hf _ _ hP hD hS ls (lv_sub hl [0, 1, 2, 3, 4, 5, 6] rfl)
      · have hf := if_f hf c10
        refine lv_aload_n hx hb dX6_levels_88 rfl (lv_at hl 2 rfl) ?_
        refine lv_iload hx hb dX6_levels_89 (lv_at hl 6 rfl) ?_
        obtain ⟨h13, hf⟩ := ok_t hf
        refine va_iald hx hb hK hP 8 0 rfl rfl (okI_in h13) dX6_levels_91 ?_
        refine lv_bipush (v := (100 : Int32)) hx hb dX6_levels_92 (by decide) ?_
        refine lv_icmp_ne (tgt := 102) hx hb dX6_levels_94 (by decide) (fun c14 => ?_) (fun c14 => ?_)
        · have hf := if_f hf c14
          exact w_X6_levels_far_c102 hc hK hA hO hN (m_X6_levels_far_c61 o_n o_own0 o_own1 o_near p2 k50 n) ih v4 v6 v8 v11 v11 o_far hf _ _ hP hD hS ls (lv_sub hl [0, 1, 2, 3, 4, 5, 6] rfl)
        · have hf := if_t hf c14
          refine lv_iload hx hb dX6_levels_97 (lv_at hl 5 rfl) ?_
          refine lv_goto (tgt := 106) hx hb dX6_levels_99 (by decide) ?_
          exact w_X6_levels_far_c106 hc hK hA hO hN (m_X6_levels_far_c61 o_n o_own0 o_own1 o_near p2 k50 n) ih v4 v6 v8 v11 v8 v11 o_far hf _ _ hP hD hS ls (lv_sub hl [0, 1, 2, 3, 4, 5, 6] rfl)
def m_X6_levels_far_c50 (o_n : Int32) (o_own0 : Int64) (o_own1 : Int64) (o_near : Nat → Int64) (p2 : Int32)  : Nat → Int64 → Int64 → Int32 → Int64 → (Nat → Int32) → Option ((Nat → Int32))
  | 0, _, _, _, _, _ => none
  | n + 1, v4, v6, v8, v9, o_far => (if v9 = v6 then some o_far else (m_X6_levels_far_c61 o_n o_own0 o_own1 o_near p2 (m_X6_levels_far_c50 o_n o_own0 o_own1 o_near p2  n) FU v4 v6 v8 (0 : Int32) o_far))
set_option maxHeartbeats 4000000 in
set_option maxRecDepth 100000 in
theorem w_X6_levels_far_c50 {p : Program} {l : Launch} {e : Env} {s : State} {m : MethodId} {args : Array Value} {below : List Frame} {meth : Method} {c : Code} {D : va_G} {C : Nat → ClassId} {A : Nat → Prop} {a0 : Nat} {a1 : Nat} {a2 : Nat} {a3 : Nat} {a4 : Nat} {a5 : Nat} {a6 : Nat} {a7 : Nat} {a8 : Nat} {a9 : Nat} {a10 : Nat} {a11 : Nat} {a12 : Nat} {a13 : Nat} {a14 : Nat} {a15 : Nat} {o_n : Int32} {o_all : Int32} {o_made : Int32} {o_own0 : Int64} {o_own1 : Int64} {o_threatMany : Int32} {o_length : Int32} {o_holes : Int32} {o_tellings : Int32} {o_game : Nat → Int32} {o_near : Nat → Int64} {o_kept : Nat → Int32} {o_isKept : Nat → Int32} {o_threatOf : Nat → Int32} {o_threatSet : Nat → Int64} {o_text : Nat → Int32} {o_back : Nat → Int32} {o_hole : Nat → Int32} {o_isWon : Nat → Int32} {o_won : Nat → Int32} {o_lasts : Nat → Int32} {o_power : Nat → Int32} {o_told : Nat → Int32} {p2 : Int32} {o : (Nat → Int32)} (hc : Cx p s m args meth c yX6_levels cX6_levels 12 none) (hK : va_K D vwCl (TY C) s) (hA : ∀ q : Nat, s.heap.size ≤ q → A q) (hO : va_P D vwCl ([] : va_W) s.heap) (hN : ∀ q ∈ ([] : va_W), ¬ A q.1) : ∀ (n : Nat), ∀ (v4 : Int64) (v6 : Int64) (v8 : Int32) (v9 : Int64) (o_far : Nat → Int32), m_X6_levels_far_c50 o_n o_own0 o_own1 o_near p2  n v4 v6 v8 v9 o_far = some o → ∀ (H : Heap) (locs : List Loc), va_P D vwCl (wX6 C a0 a1 a2 a3 a4 a5 a6 a7 a8 a9 a10 a11 a12 a13 a14 a15 o_n o_all o_made o_own0 o_own1 o_threatMany o_length o_holes o_tellings o_game o_near o_kept o_isKept o_threatOf o_threatSet o_text o_far o_back o_hole o_isWon o_won o_lasts o_power o_told) H → va_D A (wX6 C a0 a1 a2 a3 a4 a5 a6 a7 a8 a9 a10 a11 a12 a13 a14 a15 o_n o_all o_made o_own0 o_own1 o_threatMany o_length o_holes o_tellings o_game o_near o_kept o_isKept o_threatOf o_threatSet o_text o_far o_back o_hole o_isWon o_won o_lasts o_power o_told) → va_S A s.heap H locs → ∀ (ls : Array Slot), lv_has ls 12 [(0, .ref a0), (2, .int p2), (3, .ref a8), (4, .long v4), (6, .long v6), (8, .int v8), (9, .long v9)] → W p l e R_X6_levels_far s m args below meth c H locs 0 0 (MQ below (QWv D (wX6 C a0 a1 a2 a3 a4 a5 a6 a7 a8 a9 a10 a11 a12 a13 a14 a15 o_n o_all o_made o_own0 o_own1 o_threatMany o_length o_holes o_tellings o_game o_near o_kept o_isKept o_threatOf o_threatSet o_text o o_back o_hole o_isWon o_won o_lasts o_power o_told) A) args s 0 0 A) (F0 m 50 ls []) := by
  have hx := hc.1
  have hb := hc.2.1
  have hown := hc.2.2.2.2.1
  have hts := hc.2.2.2.2.2.1
  intro n
  induction n with
  | zero =>
    intro v4 v6 v8 v9 o_far hf
    exact no_some hf
  | succ n ih =>
    intro v4 v6 v8 v9 o_far hf H locs hP hD hS ls hl
    refine lv_lload hx hb dX6_levels_50 (lv_at hl 6 rfl) ?_
    refine lv_lload hx hb dX6_levels_52 (lv_at hl 4 rfl) ?_
    refine lc_eq (tgt := 162) hx hb dX6_levels_54 dX6_levels_55 (by decide) (fun c4 => ?_) (fun c4 => ?_)
    · have hf := if_t hf c4
      have hf := Option.some.inj hf
      subst hf
      exact rWv hc hP hD hS dX6_levels_162
    · have hf := if_f hf c4
      refine lv_iconst (v := (0 : Int32)) hx hb dX6_levels_58 (by decide) ?_
      refine lv_istore (lv' := [(11, .int (0 : Int32)), (0, .ref a0), (2, .int p2), (3, .ref a8), (4, .long v4), (6, .long v6), (8, .int v8), (9, .long v9)]) hx hb dX6_levels_59 hl (by decide) rfl (fun ls hl => ?_)
      exact w_X6_levels_far_c61 hc hK hA hO hN (m_X6_levels_far_c50 o_n o_own0 o_own1 o_near p2  n) ih FU v4 v6 v8 (0 : Int32) o_far hf _ _ hP hD hS ls (lv_sub hl [1, 2, 3, 4, 5, 6, 0] rfl)
def m_X6_levels_far_c3 (o_n : Int32) (o_own0 : Int64) (o_own1 : Int64) (o_near : Nat → Int64) (p1 : Int32) (p2 : Int32)  : Nat → Int32 → (Nat → Int32) → Option ((Nat → Int32))
  | 0, _, _ => none
  | n + 1, v4, o_far => (if (49 : Int32) ≤ v4 then ((m_X6_edge o_n p2).bind fun u2 => ((m_X6_reach o_n o_near u2 (m_X6_own o_own0 o_own1 p1)).bind fun u3 => (m_X6_levels_far_c50 o_n o_own0 o_own1 o_near p2 FU (m_X6_own o_own0 o_own1 p1) u3 (0 : Int32) (-1 : Int64) o_far))) else (if okI v4 49 = true then (m_X6_levels_far_c3 o_n o_own0 o_own1 o_near p1 p2  n (v4 + (1 : Int32)) (upd o_far v4.toNatClampNeg (100 : Int32))) else none))
set_option maxHeartbeats 4000000 in
set_option maxRecDepth 100000 in
theorem w_X6_levels_far_c3 {p : Program} {l : Launch} {e : Env} {s : State} {m : MethodId} {args : Array Value} {below : List Frame} {meth : Method} {c : Code} {D : va_G} {C : Nat → ClassId} {A : Nat → Prop} {a0 : Nat} {a1 : Nat} {a2 : Nat} {a3 : Nat} {a4 : Nat} {a5 : Nat} {a6 : Nat} {a7 : Nat} {a8 : Nat} {a9 : Nat} {a10 : Nat} {a11 : Nat} {a12 : Nat} {a13 : Nat} {a14 : Nat} {a15 : Nat} {o_n : Int32} {o_all : Int32} {o_made : Int32} {o_own0 : Int64} {o_own1 : Int64} {o_threatMany : Int32} {o_length : Int32} {o_holes : Int32} {o_tellings : Int32} {o_game : Nat → Int32} {o_near : Nat → Int64} {o_kept : Nat → Int32} {o_isKept : Nat → Int32} {o_threatOf : Nat → Int32} {o_threatSet : Nat → Int64} {o_text : Nat → Int32} {o_back : Nat → Int32} {o_hole : Nat → Int32} {o_isWon : Nat → Int32} {o_won : Nat → Int32} {o_lasts : Nat → Int32} {o_power : Nat → Int32} {o_told : Nat → Int32} {p1 : Int32} {p2 : Int32} {o : (Nat → Int32)} (hc : Cx p s m args meth c yX6_levels cX6_levels 12 none) (hK : va_K D vwCl (TY C) s) (hA : ∀ q : Nat, s.heap.size ≤ q → A q) (hO : va_P D vwCl ([] : va_W) s.heap) (hN : ∀ q ∈ ([] : va_W), ¬ A q.1) : ∀ (n : Nat), ∀ (v4 : Int32) (o_far : Nat → Int32), m_X6_levels_far_c3 o_n o_own0 o_own1 o_near p1 p2  n v4 o_far = some o → ∀ (H : Heap) (locs : List Loc), va_P D vwCl (wX6 C a0 a1 a2 a3 a4 a5 a6 a7 a8 a9 a10 a11 a12 a13 a14 a15 o_n o_all o_made o_own0 o_own1 o_threatMany o_length o_holes o_tellings o_game o_near o_kept o_isKept o_threatOf o_threatSet o_text o_far o_back o_hole o_isWon o_won o_lasts o_power o_told) H → va_D A (wX6 C a0 a1 a2 a3 a4 a5 a6 a7 a8 a9 a10 a11 a12 a13 a14 a15 o_n o_all o_made o_own0 o_own1 o_threatMany o_length o_holes o_tellings o_game o_near o_kept o_isKept o_threatOf o_threatSet o_text o_far o_back o_hole o_isWon o_won o_lasts o_power o_told) → va_S A s.heap H locs → ∀ (ls : Array Slot), lv_has ls 12 [(0, .ref a0), (1, .int p1), (2, .int p2), (3, .ref a8), (4, .int v4)] → W p l e R_X6_levels_far s m args below meth c H locs 0 0 (MQ below (QWv D (wX6 C a0 a1 a2 a3 a4 a5 a6 a7 a8 a9 a10 a11 a12 a13 a14 a15 o_n o_all o_made o_own0 o_own1 o_threatMany o_length o_holes o_tellings o_game o_near o_kept o_isKept o_threatOf o_threatSet o_text o o_back o_hole o_isWon o_won o_lasts o_power o_told) A) args s 0 0 A) (F0 m 3 ls []) := by
  have hx := hc.1
  have hb := hc.2.1
  have hown := hc.2.2.2.2.1
  have hts := hc.2.2.2.2.2.1
  intro n
  induction n with
  | zero =>
    intro v4 o_far hf
    exact no_some hf
  | succ n ih =>
    intro v4 o_far hf H locs hP hD hS ls hl
    refine lv_iload hx hb dX6_levels_3 (lv_at hl 4 rfl) ?_
    refine lv_bipush (v := (49 : Int32)) hx hb dX6_levels_5 (by decide) ?_
    refine lv_icmp_ge (tgt := 22) hx hb dX6_levels_7 (by decide) (fun c1 => ?_) (fun c1 => ?_)
    · have hf := if_t hf c1
      refine lv_aload_n hx hb dX6_levels_22 rfl (lv_at hl 0 rfl) ?_
      refine lv_iload_n hx hb dX6_levels_23 rfl (lv_at hl 1 rfl) ?_
      refine rcVl (As := [.int p1]) (rest := []) hc k_X6_139 (c_X6_own l D C a0 o_n a1 o_all o_made o_own0 o_own1 a2 a3 a4 a5 a6 o_threatMany a7 o_length a8 a9 a10 o_holes a11 a12 a13 a14 a15 o_tellings p1  _ rfl) ⟨rfl, rfl, Nat.le_of_ble_eq_true rfl, Nat.le_of_ble_eq_true rfl⟩ (hP.sub [0] rfl) hK (q0 := 0) rfl rfl rfl hl rfl rfl (Nat.le_of_ble_eq_true rfl) ⟨Nat.zero_le _, Nat.zero_le _⟩ dX6_levels_24 ?_
      refine lv_lstore (lv' := [(4, .long (m_X6_own o_own0 o_own1 p1)), (0, .ref a0), (1, .int p1), (2, .int p2), (3, .ref a8)]) hx hb dX6_levels_27 hl (by decide) rfl (fun ls hl => ?_)
      refine lv_aload_n hx hb dX6_levels_29 rfl (lv_at hl 1 rfl) ?_
      refine lv_aload_n hx hb dX6_levels_30 rfl (lv_at hl 1 rfl) ?_
      refine lv_iload_n hx hb dX6_levels_31 rfl (lv_at hl 3 rfl) ?_
      obtain ⟨u2, hu2, hf⟩ := bind_some hf
      refine rcVl (As := [.int p2]) (rest := [.ref a0]) hc k_X6_93 (c_X6_edge l D C a0 o_n a1 o_all o_made o_own0 o_own1 a2 a3 a4 a5 a6 o_threatMany a7 o_length a8 a9 a10 o_holes a11 a12 a13 a14 a15 o_tellings p2  _ hu2) ⟨rfl, rfl, Nat.le_of_ble_eq_true rfl, Nat.le_of_ble_eq_true rfl⟩ (hP.sub [0] rfl) hK (q0 := 0) rfl rfl rfl hl rfl rfl (Nat.le_of_ble_eq_true rfl) ⟨Nat.zero_le _, Nat.zero_le _⟩ dX6_levels_32 ?_
      refine lv_lload hx hb dX6_levels_35 (lv_at hl 0 rfl) ?_
      obtain ⟨u3, hu3, hf⟩ := bind_some hf
      refine rcVl (As := [.long u2, .long (m_X6_own o_own0 o_own1 p1)]) (rest := []) hc k_X6_97 (c_X6_reach l D C a0 a2 o_n a1 o_all o_made o_own0 o_own1 a3 a4 a5 a6 o_threatMany a7 o_length a8 a9 a10 o_holes a11 a12 a13 a14 a15 o_tellings o_near u2 (m_X6_own o_own0 o_own1 p1)  _ hu3) ⟨rfl, rfl, Nat.le_of_ble_eq_true rfl, Nat.le_of_ble_eq_true rfl⟩ (hP.sub [0, 2] rfl) hK (q0 := 0) rfl rfl rfl hl rfl rfl (Nat.le_of_ble_eq_true rfl) ⟨Nat.zero_le _, Nat.zero_le _⟩ dX6_levels_37 ?_
      refine lv_lstore (lv' := [(6, .long u3), (4, .long (m_X6_own o_own0 o_own1 p1)), (0, .ref a0), (1, .int p1), (2, .int p2), (3, .ref a8)]) hx hb dX6_levels_40 hl (by decide) rfl (fun ls hl => ?_)
      refine lv_iconst (v := (0 : Int32)) hx hb dX6_levels_42 (by decide) ?_
      refine lv_istore (lv' := [(8, .int (0 : Int32)), (6, .long u3), (4, .long (m_X6_own o_own0 o_own1 p1)), (0, .ref a0), (1, .int p1), (2, .int p2), (3, .ref a8)]) hx hb dX6_levels_43 hl (by decide) rfl (fun ls hl => ?_)
      refine lv_ldc2 (v := (-1 : Int64)) hx hb hown (hts _ q_760) dX6_levels_45 ?_
      refine lv_lstore (lv' := [(9, .long (-1 : Int64)), (8, .int (0 : Int32)), (6, .long u3), (4, .long (m_X6_own o_own0 o_own1 p1)), (0, .ref a0), (1, .int p1), (2, .int p2), (3, .ref a8)]) hx hb dX6_levels_48 hl (by decide) rfl (fun ls hl => ?_)
      exact w_X6_levels_far_c50 hc hK hA hO hN  FU (m_X6_own o_own0 o_own1 p1) u3 (0 : Int32) (-1 : Int64) o_far hf _ _ hP hD hS ls (lv_sub hl [4, 6, 7, 3, 2, 1, 0] rfl)
    · have hf := if_f hf c1
      refine lv_aload_n hx hb dX6_levels_10 rfl (lv_at hl 3 rfl) ?_
      refine lv_iload hx hb dX6_levels_11 (lv_at hl 4 rfl) ?_
      refine lv_bipush (v := (100 : Int32)) hx hb dX6_levels_13 (by decide) ?_
      obtain ⟨h15, hf⟩ := ok_t hf
      refine va_iast hx hb hK hP hD hS 8 0 rfl rfl (okI_in h15) dX6_levels_15 (fun H locs hP hD hS => ?_)
      have hP : va_P D vwCl (wX6 C a0 a1 a2 a3 a4 a5 a6 a7 a8 a9 a10 a11 a12 a13 a14 a15 o_n o_all o_made o_own0 o_own1 o_threatMany o_length o_holes o_tellings o_game o_near o_kept o_isKept o_threatOf o_threatSet o_text (upd o_far v4.toNatClampNeg (100 : Int32)) o_back o_hole o_isWon o_won o_lasts o_power o_told) H := hP
      have hD : va_D A (wX6 C a0 a1 a2 a3 a4 a5 a6 a7 a8 a9 a10 a11 a12 a13 a14 a15 o_n o_all o_made o_own0 o_own1 o_threatMany o_length o_holes o_tellings o_game o_near o_kept o_isKept o_threatOf o_threatSet o_text (upd o_far v4.toNatClampNeg (100 : Int32)) o_back o_hole o_isWon o_won o_lasts o_power o_told) := hD
      refine lv_iinc (v := (v4 + (1 : Int32))) (lv' := [(4, .int (v4 + (1 : Int32))), (0, .ref a0), (1, .int p1), (2, .int p2), (3, .ref a8)]) hx hb dX6_levels_16 hl (k := 4) rfl rfl (by decide) rfl (fun ls hl => ?_)
      refine lv_goto (tgt := 3) hx hb dX6_levels_19 (by decide) ?_
      exact ih (v4 + (1 : Int32)) (upd o_far v4.toNatClampNeg (100 : Int32)) hf _ _ hP hD hS ls (lv_sub hl [1, 2, 3, 4, 0] rfl)
def m_X6_levels_far (o_n : Int32) (o_own0 : Int64) (o_own1 : Int64) (o_near : Nat → Int64) (o_far : Nat → Int32) (p1 : Int32) (p2 : Int32) : Option ((Nat → Int32)) := (m_X6_levels_far_c3 o_n o_own0 o_own1 o_near p1 p2 FU (0 : Int32) o_far)
set_option maxHeartbeats 4000000 in
set_option maxRecDepth 100000 in
theorem c_X6_levels_far (l : Launch) (D : va_G) (C : Nat → ClassId) (sz : Nat) (a0 : Nat) (a1 : Nat) (a2 : Nat) (a3 : Nat) (a4 : Nat) (a5 : Nat) (a6 : Nat) (a7 : Nat) (a8 : Nat) (a9 : Nat) (a10 : Nat) (a11 : Nat) (a12 : Nat) (a13 : Nat) (a14 : Nat) (a15 : Nat) (o_n : Int32) (o_all : Int32) (o_made : Int32) (o_own0 : Int64) (o_own1 : Int64) (o_threatMany : Int32) (o_length : Int32) (o_holes : Int32) (o_tellings : Int32) (o_game : Nat → Int32) (o_near : Nat → Int64) (o_kept : Nat → Int32) (o_isKept : Nat → Int32) (o_threatOf : Nat → Int32) (o_threatSet : Nat → Int64) (o_text : Nat → Int32) (o_far : Nat → Int32) (o_back : Nat → Int32) (o_hole : Nat → Int32) (o_isWon : Nat → Int32) (o_won : Nat → Int32) (o_lasts : Nat → Int32) (o_power : Nat → Int32) (o_told : Nat → Int32) (p1 : Int32) (p2 : Int32) (o : (Nat → Int32)) (hf : m_X6_levels_far o_n o_own0 o_own1 o_near o_far p1 p2 = some o) : Met l yX6_levels (wl yX6_levels cX6_levels 12 none) R_X6_levels_far (PW [.ref a0, .int p1, .int p2, .ref a8] D C sz (wX6 C a0 a1 a2 a3 a4 a5 a6 a7 a8 a9 a10 a11 a12 a13 a14 a15 o_n o_all o_made o_own0 o_own1 o_threatMany o_length o_holes o_tellings o_game o_near o_kept o_isKept o_threatOf o_threatSet o_text o_far o_back o_hole o_isWon o_won o_lasts o_power o_told) ([] : va_W)) (QWv D (wX6 C a0 a1 a2 a3 a4 a5 a6 a7 a8 a9 a10 a11 a12 a13 a14 a15 o_n o_all o_made o_own0 o_own1 o_threatMany o_length o_holes o_tellings o_game o_near o_kept o_isKept o_threatOf o_threatSet o_text o o_back o_hole o_isWon o_won o_lasts o_power o_told) (va_A (wX6 C a0 a1 a2 a3 a4 a5 a6 a7 a8 a9 a10 a11 a12 a13 a14 a15 o_n o_all o_made o_own0 o_own1 o_threatMany o_length o_holes o_tellings o_game o_near o_kept o_isKept o_threatOf o_threatSet o_text o_far o_back o_hole o_isWon o_won o_lasts o_power o_told) sz)) 0 0 (va_A (wX6 C a0 a1 a2 a3 a4 a5 a6 a7 a8 a9 a10 a11 a12 a13 a14 a15 o_n o_all o_made o_own0 o_own1 o_threatMany o_length o_holes o_tellings o_game o_near o_kept o_isKept o_threatOf o_threatSet o_text o_far o_back o_hole o_isWon o_won o_lasts o_power o_told) sz) := by
  refine Met_ofC (by decide) ?_
  intro p e s m args below meth c hc hv
  obtain ⟨rfl, hsz, hP, hK, hD0, hO, hN0⟩ := hv
  subst hsz
  have hD := hD0.self (sz := s.heap.size)
  have hN : ∀ q ∈ ([] : va_W), ¬ va_A (wX6 C a0 a1 a2 a3 a4 a5 a6 a7 a8 a9 a10 a11 a12 a13 a14 a15 o_n o_all o_made o_own0 o_own1 o_threatMany o_length o_holes o_tellings o_game o_near o_kept o_isKept o_threatOf o_threatSet o_text o_far o_back o_hole o_isWon o_won o_lasts o_power o_told) s.heap.size q.1 := hN0
  generalize hAe : va_A (wX6 C a0 a1 a2 a3 a4 a5 a6 a7 a8 a9 a10 a11 a12 a13 a14 a15 o_n o_all o_made o_own0 o_own1 o_threatMany o_length o_holes o_tellings o_game o_near o_kept o_isKept o_threatOf o_threatSet o_text o_far o_back o_hole o_isWon o_won o_lasts o_power o_told) s.heap.size = A at hD hN ⊢
  have hA : ∀ q : Nat, s.heap.size ≤ q → A q := fun q h => by rw [← hAe]; exact Or.inr h
  have hS : va_S A s.heap s.heap [] := va_S.rf
  have hx := hc.1
  have hb := hc.2.1
  have hown := hc.2.2.2.2.1
  have hts := hc.2.2.2.2.2.1
  refine en_F rfl (fun ls hl => ?_)
  have hl : lv_has ls 12 [(0, .ref a0), (1, .int p1), (2, .int p2), (3, .ref a8)] := hl
  refine lv_iconst (v := (0 : Int32)) hx hb dX6_levels_0 (by decide) ?_
  refine lv_istore (lv' := [(4, .int (0 : Int32)), (0, .ref a0), (1, .int p1), (2, .int p2), (3, .ref a8)]) hx hb dX6_levels_1 hl (by decide) rfl (fun ls hl => ?_)
  exact w_X6_levels_far_c3 hc hK hA hO hN  FU (0 : Int32) o_far hf _ _ hP hD hS ls (lv_sub hl [1, 2, 3, 4, 0] rfl)
abbrev R_X6_levels_back : Room := { frames := 3, cells := 0, slots := 0, locals := 75 }
def m_X6_levels_back_c106  (k61 : Int64 → Int64 → Int32 → Int32 → (Nat → Int32) → Option ((Nat → Int32))) (v4 : Int64) (v6 : Int64) (v8 : Int32) (v11 : Int32) (t0 : Int32) (t1 : Int32) (o_back : Nat → Int32) : Option ((Nat → Int32)) := (if okI t1 49 = true then (k61 v4 v6 v8 (v11 + (1 : Int32)) (upd o_back t1.toNatClampNeg t0)) else none)
set_option maxHeartbeats 4000000 in
set_option maxRecDepth 100000 in
theorem w_X6_levels_back_c106 {p : Program} {l : Launch} {e : Env} {s : State} {m : MethodId} {args : Array Value} {below : List Frame} {meth : Method} {c : Code} {D : va_G} {C : Nat → ClassId} {A : Nat → Prop} {a0 : Nat} {a1 : Nat} {a2 : Nat} {a3 : Nat} {a4 : Nat} {a5 : Nat} {a6 : Nat} {a7 : Nat} {a8 : Nat} {a9 : Nat} {a10 : Nat} {a11 : Nat} {a12 : Nat} {a13 : Nat} {a14 : Nat} {a15 : Nat} {o_n : Int32} {o_all : Int32} {o_made : Int32} {o_own0 : Int64} {o_own1 : Int64} {o_threatMany : Int32} {o_length : Int32} {o_holes : Int32} {o_tellings : Int32} {o_game : Nat → Int32} {o_near : Nat → Int64} {o_kept : Nat → Int32} {o_isKept : Nat → Int32} {o_threatOf : Nat → Int32} {o_threatSet : Nat → Int64} {o_text : Nat → Int32} {o_far : Nat → Int32} {o_hole : Nat → Int32} {o_isWon : Nat → Int32} {o_won : Nat → Int32} {o_lasts : Nat → Int32} {o_power : Nat → Int32} {o_told : Nat → Int32} {p2 : Int32} {o : (Nat → Int32)} (hc : Cx p s m args meth c yX6_levels cX6_levels 12 none) (hK : va_K D vwCl (TY C) s) (hA : ∀ q : Nat, s.heap.size ≤ q → A q) (hO : va_P D vwCl ([] : va_W) s.heap) (hN : ∀ q ∈ ([] : va_W), ¬ A q.1) (k61 : Int64 → Int64 → Int32 → Int32 → (Nat → Int32) → Option ((Nat → Int32))) (hk61 : ∀ (v4 : Int64) (v6 : Int64) (v8 : Int32) (v11 : Int32) (o_back : Nat → Int32), k61 v4 v6 v8 v11 o_back = some o → ∀ (H : Heap) (locs : List Loc), va_P D vwCl (wX6 C a0 a1 a2 a3 a4 a5 a6 a7 a8 a9 a10 a11 a12 a13 a14 a15 o_n o_all o_made o_own0 o_own1 o_threatMany o_length o_holes o_tellings o_game o_near o_kept o_isKept o_threatOf o_threatSet o_text o_far o_back o_hole o_isWon o_won o_lasts o_power o_told) H → va_D A (wX6 C a0 a1 a2 a3 a4 a5 a6 a7 a8 a9 a10 a11 a12 a13 a14 a15 o_n o_all o_made o_own0 o_own1 o_threatMany o_length o_holes o_tellings o_game o_near o_kept o_isKept o_threatOf o_threatSet o_text o_far o_back o_hole o_isWon o_won o_lasts o_power o_told) → va_S A s.heap H locs → ∀ (ls : Array Slot), lv_has ls 12 [(0, .ref a0), (2, .int p2), (3, .ref a9), (4, .long v4), (6, .long v6), (8, .int v8), (11, .int v11)] → W p l e R_X6_levels_back s m args below meth c H locs 0 0 (MQ below (QWv D (wX6 C a0 a1 a2 a3 a4 a5 a6 a7 a8 a9 a10 a11 a12 a13 a14 a15 o_n o_all o_made o_own0 o_own1 o_threatMany o_length o_holes o_tellings o_game o_near o_kept o_isKept o_threatOf o_threatSet o_text o_far o o_hole o_isWon o_won o_lasts o_power o_told) A) args s 0 0 A) (F0 m 61 ls [])) : ∀ (v4 : Int64) (v6 : Int64) (v8 : Int32) (v11 : Int32) (t0 : Int32) (t1 : Int32) (o_back : Nat → Int32), m_X6_levels_back_c106  k61 v4 v6 v8 v11 t0 t1 o_back = some o → ∀ (H : Heap) (locs : List Loc), va_P D vwCl (wX6 C a0 a1 a2 a3 a4 a5 a6 a7 a8 a9 a10 a11 a12 a13 a14 a15 o_n o_all o_made o_own0 o_own1 o_threatMany o_length o_holes o_tellings o_game o_near o_kept o_isKept o_threatOf o_threatSet o_text o_far o_back o_hole o_isWon o_won o_lasts o_power o_told) H → va_D A (wX6 C a0 a1 a2 a3 a4 a5 a6 a7 a8 a9 a10 a11 a12 a13 a14 a15 o_n o_all o_made o_own0 o_own1 o_threatMany o_length o_holes o_tellings o_game o_near o_kept o_isKept o_threatOf o_threatSet o_text o_far o_back o_hole o_isWon o_won o_lasts o_power o_told) → va_S A s.heap H locs → ∀ (ls : Array Slot), lv_has ls 12 [(0, .ref a0), (2, .int p2), (3, .ref a9), (4, .long v4), (6, .long v6), (8, .int v8), (11, .int v11)] → W p l e R_X6_levels_back s m args below meth c H locs 0 0 (MQ below (QWv D (wX6 C a0 a1 a2 a3 a4 a5 a6 a7 a8 a9 a10 a11 a12 a13 a14 a15 o_n o_all o_made o_own0 o_own1 o_threatMany o_length o_holes o_tellings o_game o_near o_kept o_isKept o_threatOf o_threatSet o_text o_far o o_hole o_isWon o_won o_lasts o_power o_told) A) args s 0 0 A) (F0 m 106 ls [.int t0, .int t1, .ref a9]) := by
  have hx := hc.1
  have hb := hc.2.1
  have hown := hc.2.2.2.2.1
  have hts := hc.2.2.2.2.2.1
  intro v4 v6 v8 v11 t0 t1 o_back hf H locs hP hD hS ls hl
  obtain ⟨h12, hf⟩ := ok_t hf
  refine va_iast hx hb hK hP hD hS 9 0 rfl rfl (okI_in h12) dX6_levels_106 (fun H locs hP hD hS => ?_)
  have hP : va_P D vwCl (wX6 C a0 a1 a2 a3 a4 a5 a6 a7 a8 a9 a10 a11 a12 a13 a14 a15 o_n o_all o_made o_own0 o_own1 o_threatMany o_length o_holes o_tellings o_game o_near o_kept o_isKept o_threatOf o_threatSet o_text o_far (upd o_back t1.toNatClampNeg t0) o_hole o_isWon o_won o_lasts o_power o_told) H := hP
  have hD : va_D A (wX6 C a0 a1 a2 a3 a4 a5 a6 a7 a8 a9 a10 a11 a12 a13 a14 a15 o_n o_all o_made o_own0 o_own1 o_threatMany o_length o_holes o_tellings o_game o_near o_kept o_isKept o_threatOf o_threatSet o_text o_far (upd o_back t1.toNatClampNeg t0) o_hole o_isWon o_won o_lasts o_power o_told) := hD
  refine lv_iinc (v := (v11 + (1 : Int32))) (lv' := [(11, .int (v11 + (1 : Int32))), (0, .ref a0), (2, .int p2), (3, .ref a9), (4, .long v4), (6, .long v6), (8, .int v8)]) hx hb dX6_levels_107 hl (k := 6) rfl rfl (by decide) rfl (fun ls hl => ?_)
  refine lv_goto (tgt := 61) hx hb dX6_levels_110 (by decide) ?_
  exact hk61 v4 v6 v8 (v11 + (1 : Int32)) (upd o_back t1.toNatClampNeg t0) hf _ _ hP hD hS ls (lv_sub hl [1, 2, 3, 4, 5, 6, 0] rfl)
def m_X6_levels_back_c102  (k61 : Int64 → Int64 → Int32 → Int32 → (Nat → Int32) → Option ((Nat → Int32))) (v4 : Int64) (v6 : Int64) (v8 : Int32) (v11 : Int32) (t0 : Int32) (o_back : Nat → Int32) : Option ((Nat → Int32)) := (if okI v11 49 = true then (m_X6_levels_back_c106 k61 v4 v6 v8 v11 (o_back v11.toNatClampNeg) t0 o_back) else none)
set_option maxHeartbeats 4000000 in
set_option maxRecDepth 100000 in
theorem w_X6_levels_back_c102 {p : Program} {l : Launch} {e : Env} {s : State} {m : MethodId} {args : Array Value} {below : List Frame} {meth : Method} {c : Code} {D : va_G} {C : Nat → ClassId} {A : Nat → Prop} {a0 : Nat} {a1 : Nat} {a2 : Nat} {a3 : Nat} {a4 : Nat} {a5 : Nat} {a6 : Nat} {a7 : Nat} {a8 : Nat} {a9 : Nat} {a10 : Nat} {a11 : Nat} {a12 : Nat} {a13 : Nat} {a14 : Nat} {a15 : Nat} {o_n : Int32} {o_all : Int32} {o_made : Int32} {o_own0 : Int64} {o_own1 : Int64} {o_threatMany : Int32} {o_length : Int32} {o_holes : Int32} {o_tellings : Int32} {o_game : Nat → Int32} {o_near : Nat → Int64} {o_kept : Nat → Int32} {o_isKept : Nat → Int32} {o_threatOf : Nat → Int32} {o_threatSet : Nat → Int64} {o_text : Nat → Int32} {o_far : Nat → Int32} {o_hole : Nat → Int32} {o_isWon : Nat → Int32} {o_won : Nat → Int32} {o_lasts : Nat → Int32} {o_power : Nat → Int32} {o_told : Nat → Int32} {p2 : Int32} {o : (Nat → Int32)} (hc : Cx p s m args meth c yX6_levels cX6_levels 12 none) (hK : va_K D vwCl (TY C) s) (hA : ∀ q : Nat, s.heap.size ≤ q → A q) (hO : va_P D vwCl ([] : va_W) s.heap) (hN : ∀ q ∈ ([] : va_W), ¬ A q.1) (k61 : Int64 → Int64 → Int32 → Int32 → (Nat → Int32) → Option ((Nat → Int32))) (hk61 : ∀ (v4 : Int64) (v6 : Int64) (v8 : Int32) (v11 : Int32) (o_back : Nat → Int32), k61 v4 v6 v8 v11 o_back = some o → ∀ (H : Heap) (locs : List Loc), va_P D vwCl (wX6 C a0 a1 a2 a3 a4 a5 a6 a7 a8 a9 a10 a11 a12 a13 a14 a15 o_n o_all o_made o_own0 o_own1 o_threatMany o_length o_holes o_tellings o_game o_near o_kept o_isKept o_threatOf o_threatSet o_text o_far o_back o_hole o_isWon o_won o_lasts o_power o_told) H → va_D A (wX6 C a0 a1 a2 a3 a4 a5 a6 a7 a8 a9 a10 a11 a12 a13 a14 a15 o_n o_all o_made o_own0 o_own1 o_threatMany o_length o_holes o_tellings o_game o_near o_kept o_isKept o_threatOf o_threatSet o_text o_far o_back o_hole o_isWon o_won o_lasts o_power o_told) → va_S A s.heap H locs → ∀ (ls : Array Slot), lv_has ls 12 [(0, .ref a0), (2, .int p2), (3, .ref a9), (4, .long v4), (6, .long v6), (8, .int v8), (11, .int v11)] → W p l e R_X6_levels_back s m args below meth c H locs 0 0 (MQ below (QWv D (wX6 C a0 a1 a2 a3 a4 a5 a6 a7 a8 a9 a10 a11 a12 a13 a14 a15 o_n o_all o_made o_own0 o_own1 o_threatMany o_length o_holes o_tellings o_game o_near o_kept o_isKept o_threatOf o_threatSet o_text o_far o o_hole o_isWon o_won o_lasts o_power o_told) A) args s 0 0 A) (F0 m 61 ls [])) : ∀ (v4 : Int64) (v6 : Int64) (v8 : Int32) (v11 : Int32) (t0 : Int32) (o_back : Nat → Int32), m_X6_levels_back_c102  k61 v4 v6 v8 v11 t0 o_back = some o → ∀ (H : Heap) (locs : List Loc), va_P D vwCl (wX6 C a0 a1 a2 a3 a4 a5 a6 a7 a8 a9 a10 a11 a12 a13 a14 a15 o_n o_all o_made o_own0 o_own1 o_threatMany o_length o_holes o_tellings o_game o_near o_kept o_isKept o_threatOf o_threatSet o_text o_far o_back o_hole o_isWon o_won o_lasts o_power o_told) H → va_D A (wX6 C a0 a1 a2 a3 a4 a5 a6 a7 a8 a9 a10 a11 a12 a13 a14 a15 o_n o_all o_made o_own0 o_own1 o_threatMany o_length o_holes o_tellings o_game o_near o_kept o_isKept o_threatOf o_threatSet o_text o_far o_back o_hole o_isWon o_won o_lasts o_power o_told) → va_S A s.heap H locs → ∀ (ls : Array Slot), lv_has ls 12 [(0, .ref a0), (2, .int p2), (3, .ref a9), (4, .long v4), (6, .long v6), (8, .int v8), (11, .int v11)] → W p l e R_X6_levels_back s m args below meth c H locs 0 0 (MQ below (QWv D (wX6 C a0 a1 a2 a3 a4 a5 a6 a7 a8 a9 a10 a11 a12 a13 a14 a15 o_n o_all o_made o_own0 o_own1 o_threatMany o_length o_holes o_tellings o_game o_near o_kept o_isKept o_threatOf o_threatSet o_text o_far o o_hole o_isWon o_won o_lasts o_power o_told) A) args s 0 0 A) (F0 m 102 ls [.int t0, .ref a9]) := by
  have hx := hc.1
  have hb := hc.2.1
  have hown := hc.2.2.2.2.1
  have hts := hc.2.2.2.2.2.1
  intro v4 v6 v8 v11 t0 o_back hf H locs hP hD hS ls hl
  refine lv_aload_n hx hb dX6_levels_102 rfl (lv_at hl 2 rfl) ?_
  refine lv_iload hx hb dX6_levels_103 (lv_at hl 6 rfl) ?_
  obtain ⟨h11, hf⟩ := ok_t hf
  refine va_iald hx hb hK hP 9 0 rfl rfl (okI_in h11) dX6_levels_105 ?_
  exact w_X6_levels_back_c106 hc hK hA hO hN k61 hk61 v4 v6 v8 v11 (o_back v11.toNatClampNeg) t0 o_back hf _ _ hP hD hS ls (lv_sub hl [0, 1, 2, 3, 4, 5, 6] rfl)
def m_X6_levels_back_c61 (o_n : Int32) (o_own0 : Int64) (o_own1 : Int64) (o_near : Nat → Int64) (p2 : Int32) (k50 : Int64 → Int64 → Int32 → Int64 → (Nat → Int32) → Option ((Nat → Int32))) : Nat → Int64 → Int64 → Int32 → Int32 → (Nat → Int32) → Option ((Nat → Int32))
  | 0, _, _, _, _, _ => none
  | n + 1, v4, v6, v8, v11, o_back => (if (o_n * o_n) ≤ v11 then ((m_X6_around o_n o_near v6).bind fun u6 => ((m_X6_edge o_n p2).bind fun u7 => ((m_X6_around o_n o_near (v6 ||| ((u6 ||| u7) &&& (m_X6_free o_n o_own0 o_own1)))).bind fun u8 => ((m_X6_reach o_n o_near u8 v4).bind fun u9 => (k50 v4 ((v6 ||| ((u6 ||| u7) &&& (m_X6_free o_n o_own0 o_own1))) ||| u9) (v8 + (1 : Int32)) v6 o_back))))) else (if (m_X6_has v6 v11) = 0 then (m_X6_levels_back_c102 (m_X6_levels_back_c61 o_n o_own0 o_own1 o_near p2 k50 n) v4 v6 v8 v11 v11 o_back) else (if okI v11 49 = true then (if (o_back v11.toNatClampNeg) = (100 : Int32) then (m_X6_levels_back_c106 (m_X6_levels_back_c61 o_n o_own0 o_own1 o_near p2 k50 n) v4 v6 v8 v11 v8 v11 o_back) else (m_X6_levels_back_c102 (m_X6_levels_back_c61 o_n o_own0 o_own1 o_near p2 k50 n) v4 v6 v8 v11 v11 o_back)) else none)))
set_option maxHeartbeats 4000000 in
set_option maxRecDepth 100000 in
theorem w_X6_levels_back_c61 {p : Program} {l : Launch} {e : Env} {s : State} {m : MethodId} {args : Array Value} {below : List Frame} {meth : Method} {c : Code} {D : va_G} {C : Nat → ClassId} {A : Nat → Prop} {a0 : Nat} {a1 : Nat} {a2 : Nat} {a3 : Nat} {a4 : Nat} {a5 : Nat} {a6 : Nat} {a7 : Nat} {a8 : Nat} {a9 : Nat} {a10 : Nat} {a11 : Nat} {a12 : Nat} {a13 : Nat} {a14 : Nat} {a15 : Nat} {o_n : Int32} {o_all : Int32} {o_made : Int32} {o_own0 : Int64} {o_own1 : Int64} {o_threatMany : Int32} {o_length : Int32} {o_holes : Int32} {o_tellings : Int32} {o_game : Nat → Int32} {o_near : Nat → Int64} {o_kept : Nat → Int32} {o_isKept : Nat → Int32} {o_threatOf : Nat → Int32} {o_threatSet : Nat → Int64} {o_text : Nat → Int32} {o_far : Nat → Int32} {o_hole : Nat → Int32} {o_isWon : Nat → Int32} {o_won : Nat → Int32} {o_lasts : Nat → Int32} {o_power : Nat → Int32} {o_told : Nat → Int32} {p2 : Int32} {o : (Nat → Int32)} (hc : Cx p s m args meth c yX6_levels cX6_levels 12 none) (hK : va_K D vwCl (TY C) s) (hA : ∀ q : Nat, s.heap.size ≤ q → A q) (hO : va_P D vwCl ([] : va_W) s.heap) (hN : ∀ q ∈ ([] : va_W), ¬ A q.1) (k50 : Int64 → Int64 → Int32 → Int64 → (Nat → Int32) → Option ((Nat → Int32))) (hk50 : ∀ (v4 : Int64) (v6 : Int64) (v8 : Int32) (v9 : Int64) (o_back : Nat → Int32), k50 v4 v6 v8 v9 o_back = some o → ∀ (H : Heap) (locs : List Loc), va_P D vwCl (wX6 C a0 a1 a2 a3 a4 a5 a6 a7 a8 a9 a10 a11 a12 a13 a14 a15 o_n o_all o_made o_own0 o_own1 o_threatMany o_length o_holes o_tellings o_game o_near o_kept o_isKept o_threatOf o_threatSet o_text o_far o_back o_hole o_isWon o_won o_lasts o_power o_told) H → va_D A (wX6 C a0 a1 a2 a3 a4 a5 a6 a7 a8 a9 a10 a11 a12 a13 a14 a15 o_n o_all o_made o_own0 o_own1 o_threatMany o_length o_holes o_tellings o_game o_near o_kept o_isKept o_threatOf o_threatSet o_text o_far o_back o_hole o_isWon o_won o_lasts o_power o_told) → va_S A s.heap H locs → ∀ (ls : Array Slot), lv_has ls 12 [(0, .ref a0), (2, .int p2), (3, .ref a9), (4, .long v4), (6, .long v6), (8, .int v8), (9, .long v9)] → W p l e R_X6_levels_back s m args below meth c H locs 0 0 (MQ below (QWv D (wX6 C a0 a1 a2 a3 a4 a5 a6 a7 a8 a9 a10 a11 a12 a13 a14 a15 o_n o_all o_made o_own0 o_own1 o_threatMany o_length o_holes o_tellings o_game o_near o_kept o_isKept o_threatOf o_threatSet o_text o_far o o_hole o_isWon o_won o_lasts o_power o_told) A) args s 0 0 A) (F0 m 50 ls [])) : ∀ (n : Nat), ∀ (v4 : Int64) (v6 : Int64) (v8 : Int32) (v11 : Int32) (o_back : Nat → Int32), m_X6_levels_back_c61 o_n o_own0 o_own1 o_near p2 k50 n v4 v6 v8 v11 o_back = some o → ∀ (H : Heap) (locs : List Loc), va_P D vwCl (wX6 C a0 a1 a2 a3 a4 a5 a6 a7 a8 a9 a10 a11 a12 a13 a14 a15 o_n o_all o_made o_own0 o_own1 o_threatMany o_length o_holes o_tellings o_game o_near o_kept o_isKept o_threatOf o_threatSet o_text o_far o_back o_hole o_isWon o_won o_lasts o_power o_told) H → va_D A (wX6 C a0 a1 a2 a3 a4 a5 a6 a7 a8 a9 a10 a11 a12 a13 a14 a15 o_n o_all o_made o_own0 o_own1 o_threatMany o_length o_holes o_tellings o_game o_near o_kept o_isKept o_threatOf o_threatSet o_text o_far o_back o_hole o_isWon o_won o_lasts o_power o_told) → va_S A s.heap H locs → ∀ (ls : Array Slot), lv_has ls 12 [(0, .ref a0), (2, .int p2), (3, .ref a9), (4, .long v4), (6, .long v6), (8, .int v8), (11, .int v11)] → W p l e R_X6_levels_back s m args below meth c H locs 0 0 (MQ below (QWv D (wX6 C a0 a1 a2 a3 a4 a5 a6 a7 a8 a9 a10 a11 a12 a13 a14 a15 o_n o_all o_made o_own0 o_own1 o_threatMany o_length o_holes o_tellings o_game o_near o_kept o_isKept o_threatOf o_threatSet o_text o_far o o_hole o_isWon o_won o_lasts o_power o_told) A) args s 0 0 A) (F0 m 61 ls []) := by
  have hx := hc.1
  have hb := hc.2.1
  have hown := hc.2.2.2.2.1
  have hts := hc.2.2.2.2.2.1
  intro n
  induction n with
  | zero =>
    intro v4 v6 v8 v11 o_back hf
    exact no_some hf
  | succ n ih =>
    intro v4 v6 v8 v11 o_back hf H locs hP hD hS ls hl
    refine lv_iload hx hb dX6_levels_61 (lv_at hl 6 rfl) ?_
    refine lv_aload_n hx hb dX6_levels_63 rfl (lv_at hl 0 rfl) ?_
    refine va_get (D := D) (ci := 6) (v := .int o_n) (C := RX6) (T := TX6) (N := 24) hx hb hts inX6 hown hK hP 0 rfl rfl 0 (by decide) (hts _ q_654) (fun _ h9 => h9) rfl dX6_levels_64 ?_
    refine lv_aload_n hx hb dX6_levels_67 rfl (lv_at hl 0 rfl) ?_
    refine va_get (D := D) (ci := 6) (v := .int o_n) (C := RX6) (T := TX6) (N := 24) hx hb hts inX6 hown hK hP 0 rfl rfl 0 (by decide) (hts _ q_654) (fun _ h9 => h9) rfl dX6_levels_68 ?_
    refine lv_imul hx hb dX6_levels_71 ?_
    refine lv_icmp_ge (tgt := 113) hx hb dX6_levels_72 (by decide) (fun c5 => ?_) (fun c5 => ?_)
    · have hf := if_t hf c5
      refine lv_lload hx hb dX6_levels_113 (lv_at hl 4 rfl) ?_
      refine lv_lstore (lv' := [(9, .long v6), (0, .ref a0), (2, .int p2), (3, .ref a9), (4, .long v4), (6, .long v6), (8, .int v8), (11, .int v11)]) hx hb dX6_levels_115 hl (by decide) rfl (fun ls hl => ?_)
      refine lv_lload hx hb dX6_levels_117 (lv_at hl 5 rfl) ?_
      refine lv_aload_n hx hb dX6_levels_119 rfl (lv_at hl 1 rfl) ?_
      refine lv_lload hx hb dX6_levels_120 (lv_at hl 5 rfl) ?_
      obtain ⟨u6, hu6, hf⟩ := bind_some hf
      refine rcVl (As := [.long v6]) (rest := [.long v6]) hc k_X6_89 (c_X6_around l D C a0 a2 o_n a1 o_all o_made o_own0 o_own1 a3 a4 a5 a6 o_threatMany a7 o_length a8 a9 a10 o_holes a11 a12 a13 a14 a15 o_tellings o_near v6  _ hu6) ⟨rfl, rfl, Nat.le_of_ble_eq_true rfl, Nat.le_of_ble_eq_true rfl⟩ (hP.sub [0, 2] rfl) hK (q0 := 0) rfl rfl rfl hl rfl rfl (Nat.le_of_ble_eq_true rfl) ⟨Nat.zero_le _, Nat.zero_le _⟩ dX6_levels_122 ?_
      refine lv_aload_n hx hb dX6_levels_125 rfl (lv_at hl 1 rfl) ?_
      refine lv_iload_n hx hb dX6_levels_126 rfl (lv_at hl 2 rfl) ?_
      obtain ⟨u7, hu7, hf⟩ := bind_some hf
      refine rcVl (As := [.int p2]) (rest := [.long u6, .long v6]) hc k_X6_93 (c_X6_edge l D C a0 o_n a1 o_all o_made o_own0 o_own1 a2 a3 a4 a5 a6 o_threatMany a7 o_length a8 a9 a10 o_holes a11 a12 a13 a14 a15 o_tellings p2  _ hu7) ⟨rfl, rfl, Nat.le_of_ble_eq_true rfl, Nat.le_of_ble_eq_true rfl⟩ (hP.sub [0] rfl) hK (q0 := 0) rfl rfl rfl hl rfl rfl (Nat.le_of_ble_eq_true rfl) ⟨Nat.zero_le _, Nat.zero_le _⟩ dX6_levels_127 ?_
      refine lv_lor hx hb dX6_levels_130 ?_
      refine lv_aload_n hx hb dX6_levels_131 rfl (lv_at hl 1 rfl) ?_
      refine rcVl (As := []) (rest := [.long (u6 ||| u7), .long v6]) hc k_X6_126 (c_X6_free l D C a0 o_n a1 o_all o_made o_own0 o_own1 a2 a3 a4 a5 a6 o_threatMany a7 o_length a8 a9 a10 o_holes a11 a12 a13 a14 a15 o_tellings  _ rfl) ⟨rfl, rfl, Nat.le_of_ble_eq_true rfl, Nat.le_of_ble_eq_true rfl⟩ (hP.sub [0] rfl) hK (q0 := 0) rfl rfl rfl hl rfl rfl (Nat.le_of_ble_eq_true rfl) ⟨Nat.zero_le _, Nat.zero_le _⟩ dX6_levels_132 ?_
      refine lv_land hx hb dX6_levels_135 ?_
      refine lv_lor hx hb dX6_levels_136 ?_
      refine lv_lstore (lv' := [(6, .long (v6 ||| ((u6 ||| u7) &&& (m_X6_free o_n o_own0 o_own1)))), (9, .long v6), (0, .ref a0), (2, .int p2), (3, .ref a9), (4, .long v4), (8, .int v8), (11, .int v11)]) hx hb dX6_levels_137 hl (by decide) rfl (fun ls hl => ?_)
      refine lv_lload hx hb dX6_levels_139 (lv_at hl 0 rfl) ?_
      refine lv_aload_n hx hb dX6_levels_141 rfl (lv_at hl 2 rfl) ?_
      refine lv_aload_n hx hb dX6_levels_142 rfl (lv_at hl 2 rfl) ?_
      refine lv_lload hx hb dX6_levels_143 (lv_at hl 0 rfl) ?_
      obtain ⟨u8, hu8, hf⟩ := bind_some hf
      refine rcVl (As := [.long (v6 ||| ((u6 ||| u7) &&& (m_X6_free o_n o_own0 o_own1)))]) (rest := [.ref a0, .long (v6 ||| ((u6 ||| u7) &&& (m_X6_free o_n o_own0 o_own1)))]) hc k_X6_89 (c_X6_around l D C a0 a2 o_n a1 o_all o_made o_own0 o_own1 a3 a4 a5 a6 o_threatMany a7 o_length a8 a9 a10 o_holes a11 a12 a13 a14 a15 o_tellings o_near (v6 ||| ((u6 ||| u7) &&& (m_X6_free o_n o_own0 o_own1)))  _ hu8) ⟨rfl, rfl, Nat.le_of_ble_eq_true rfl, Nat.le_of_ble_eq_true rfl⟩ (hP.sub [0, 2] rfl) hK (q0 := 0) rfl rfl rfl hl rfl rfl (Nat.le_of_ble_eq_true rfl) ⟨Nat.zero_le _, Nat.zero_le _⟩ dX6_levels_145 ?_
      refine lv_lload hx hb dX6_levels_148 (lv_at hl 5 rfl) ?_
      obtain ⟨u9, hu9, hf⟩ := bind_some hf
      refine rcVl (As := [.long u8, .long v4]) (rest := [.long (v6 ||| ((u6 ||| u7) &&& (m_X6_free o_n o_own0 o_own1)))]) hc k_X6_97 (c_X6_reach l D C a0 a2 o_n a1 o_all o_made o_own0 o_own1 a3 a4 a5 a6 o_threatMany a7 o_length a8 a9 a10 o_holes a11 a12 a13 a14 a15 o_tellings o_near u8 v4  _ hu9) ⟨rfl, rfl, Nat.le_of_ble_eq_true rfl, Nat.le_of_ble_eq_true rfl⟩ (hP.sub [0, 2] rfl) hK (q0 := 0) rfl rfl rfl hl rfl rfl (Nat.le_of_ble_eq_true rfl) ⟨Nat.zero_le _, Nat.zero_le _⟩ dX6_levels_150 ?_
      refine lv_lor hx hb dX6_levels_153 ?_
      refine lv_lstore (lv' := [(6, .long ((v6 ||| ((u6 ||| u7) &&& (m_X6_free o_n o_own0 o_own1))) ||| u9)), (9, .long v6), (0, .ref a0), (2, .int p2), (3, .ref a9), (4, .long v4), (8, .int v8), (11, .int v11)]) hx hb dX6_levels_154 hl (by decide) rfl (fun ls hl => ?_)
      refine lv_iinc (v := (v8 + (1 : Int32))) (lv' := [(8, .int (v8 + (1 : Int32))), (6, .long ((v6 ||| ((u6 ||| u7) &&& (m_X6_free o_n o_own0 o_own1))) ||| u9)), (9, .long v6), (0, .ref a0), (2, .int p2), (3, .ref a9), (4, .long v4), (11, .int v11)]) hx hb dX6_levels_156 hl (k := 6) rfl rfl (by decide) rfl (fun ls hl => ?_)
      refine lv_goto (tgt := 50) hx hb dX6_levels_159 (by decide) ?_
      exact hk50 v4 ((v6 ||| ((u6 ||| u7) &&& (m_X6_free o_n o_own0 o_own1))) ||| u9) (v8 + (1 : Int32)) v6 o_back hf _ _ hP hD hS ls (lv_sub hl [3, 4, 5, 6, 1, 0, 2] rfl)
    · have hf := if_f hf c5
      refine lv_aload_n hx hb dX6_levels_75 rfl (lv_at hl 2 rfl) ?_
      refine lv_iload hx hb dX6_levels_76 (lv_at hl 6 rfl) ?_
      refine lv_lload hx hb dX6_levels_78 (lv_at hl 4 rfl) ?_
      refine lv_iload hx hb dX6_levels_80 (lv_at hl 6 rfl) ?_
      refine rcSi (As := [.long v6, .int v11]) (rest := [.int v11, .ref a9]) hc k_X6_85 (c_X6_has l D C v6 v11  _ rfl) ⟨rfl, rfl, Nat.le_of_ble_eq_true rfl, Nat.le_of_ble_eq_true rfl⟩ (hP.sub [] rfl) hK hl rfl rfl (Nat.le_of_ble_eq_true rfl) ⟨Nat.zero_le _, Nat.zero_le _⟩ dX6_levels_82 ?_
      refine lv_if_eq (tgt := 102) hx hb dX6_levels_85 (by decide) (fun c10 => ?_) (fun c10 => ?_)
      · have hf := if_t hf c10
        exact w_X6_levels_back_c102 hc hK hA hO hN (m_X6_levels_back_c61 o_n o_own0 o_own1 o_near p2 k50 n) ih v4 v6 v8 v11 v11 o_back hf _ _ hP hD hS ls (lv_sub hl [0, 1, 2, 3, 4, 5, 6] rfl)
      · have hf := if_f hf c10
        refine lv_aload_n hx hb dX6_levels_88 rfl (lv_at hl 2 rfl) ?_
        refine lv_iload hx hb dX6_levels_89 (lv_at hl 6 rfl) ?_
        obtain ⟨h13, hf⟩ := ok_t hf
        refine va_iald hx hb hK hP 9 0 rfl rfl (okI_in h13) dX6_levels_91 ?_
        refine lv_bipush (v := (100 : Int32)) hx hb dX6_levels_92 (by decide) ?_
        refine lv_icmp_ne (tgt := 102) hx hb dX6_levels_94 (by decide) (fun c14 => ?_) (fun c14 => ?_)
        · have hf := if_f hf c14
          exact w_X6_levels_back_c102 hc hK hA hO hN (m_X6_levels_back_c61 o_n o_own0 o_own1 o_near p2 k50 n) ih v4 v6 v8 v11 v11 o_back hf _ _ hP hD hS ls (lv_sub hl [0, 1, 2, 3, 4, 5, 6] rfl)
        · have hf := if_t hf c14
          refine lv_iload hx hb dX6_levels_97 (lv_at hl 5 rfl) ?_
          refine lv_goto (tgt := 106) hx hb dX6_levels_99 (by decide) ?_
          exact w_X6_levels_back_c106 hc hK hA hO hN (m_X6_levels_back_c61 o_n o_own0 o_own1 o_near p2 k50 n) ih v4 v6 v8 v11 v8 v11 o_back hf _ _ hP hD hS ls (lv_sub hl [0, 1, 2, 3, 4, 5, 6] rfl)
def m_X6_levels_back_c50 (o_n : Int32) (o_own0 : Int64) (o_own1 : Int64) (o_near : Nat → Int64) (p2 : Int32)  : Nat → Int64 → Int64 → Int32 → Int64 → (Nat → Int32) → Option ((Nat → Int32))
  | 0, _, _, _, _, _ => none
  | n + 1, v4, v6, v8, v9, o_back => (if v9 = v6 then some o_back else (m_X6_levels_back_c61 o_n o_own0 o_own1 o_near p2 (m_X6_levels_back_c50 o_n o_own0 o_own1 o_near p2  n) FU v4 v6 v8 (0 : Int32) o_back))
set_option maxHeartbeats 4000000 in
set_option maxRecDepth 100000 in
theorem w_X6_levels_back_c50 {p : Program} {l : Launch} {e : Env} {s : State} {m : MethodId} {args : Array Value} {below : List Frame} {meth : Method} {c : Code} {D : va_G} {C : Nat → ClassId} {A : Nat → Prop} {a0 : Nat} {a1 : Nat} {a2 : Nat} {a3 : Nat} {a4 : Nat} {a5 : Nat} {a6 : Nat} {a7 : Nat} {a8 : Nat} {a9 : Nat} {a10 : Nat} {a11 : Nat} {a12 : Nat} {a13 : Nat} {a14 : Nat} {a15 : Nat} {o_n : Int32} {o_all : Int32} {o_made : Int32} {o_own0 : Int64} {o_own1 : Int64} {o_threatMany : Int32} {o_length : Int32} {o_holes : Int32} {o_tellings : Int32} {o_game : Nat → Int32} {o_near : Nat → Int64} {o_kept : Nat → Int32} {o_isKept : Nat → Int32} {o_threatOf : Nat → Int32} {o_threatSet : Nat → Int64} {o_text : Nat → Int32} {o_far : Nat → Int32} {o_hole : Nat → Int32} {o_isWon : Nat → Int32} {o_won : Nat → Int32} {o_lasts : Nat → Int32} {o_power : Nat → Int32} {o_told : Nat → Int32} {p2 : Int32} {o : (Nat → Int32)} (hc : Cx p s m args meth c yX6_levels cX6_levels 12 none) (hK : va_K D vwCl (TY C) s) (hA : ∀ q : Nat, s.heap.size ≤ q → A q) (hO : va_P D vwCl ([] : va_W) s.heap) (hN : ∀ q ∈ ([] : va_W), ¬ A q.1) : ∀ (n : Nat), ∀ (v4 : Int64) (v6 : Int64) (v8 : Int32) (v9 : Int64) (o_back : Nat → Int32), m_X6_levels_back_c50 o_n o_own0 o_own1 o_near p2  n v4 v6 v8 v9 o_back = some o → ∀ (H : Heap) (locs : List Loc), va_P D vwCl (wX6 C a0 a1 a2 a3 a4 a5 a6 a7 a8 a9 a10 a11 a12 a13 a14 a15 o_n o_all o_made o_own0 o_own1 o_threatMany o_length o_holes o_tellings o_game o_near o_kept o_isKept o_threatOf o_threatSet o_text o_far o_back o_hole o_isWon o_won o_lasts o_power o_told) H → va_D A (wX6 C a0 a1 a2 a3 a4 a5 a6 a7 a8 a9 a10 a11 a12 a13 a14 a15 o_n o_all o_made o_own0 o_own1 o_threatMany o_length o_holes o_tellings o_game o_near o_kept o_isKept o_threatOf o_threatSet o_text o_far o_back o_hole o_isWon o_won o_lasts o_power o_told) → va_S A s.heap H locs → ∀ (ls : Array Slot), lv_has ls 12 [(0, .ref a0), (2, .int p2), (3, .ref a9), (4, .long v4), (6, .long v6), (8, .int v8), (9, .long v9)] → W p l e R_X6_levels_back s m args below meth c H locs 0 0 (MQ below (QWv D (wX6 C a0 a1 a2 a3 a4 a5 a6 a7 a8 a9 a10 a11 a12 a13 a14 a15 o_n o_all o_made o_own0 o_own1 o_threatMany o_length o_holes o_tellings o_game o_near o_kept o_isKept o_threatOf o_threatSet o_text o_far o o_hole o_isWon o_won o_lasts o_power o_told) A) args s 0 0 A) (F0 m 50 ls []) := by
  have hx := hc.1
  have hb := hc.2.1
  have hown := hc.2.2.2.2.1
  have hts := hc.2.2.2.2.2.1
  intro n
  induction n with
  | zero =>
    intro v4 v6 v8 v9 o_back hf
    exact no_some hf
  | succ n ih =>
    intro v4 v6 v8 v9 o_back hf H locs hP hD hS ls hl
    refine lv_lload hx hb dX6_levels_50 (lv_at hl 6 rfl) ?_
    refine lv_lload hx hb dX6_levels_52 (lv_at hl 4 rfl) ?_
    refine lc_eq (tgt := 162) hx hb dX6_levels_54 dX6_levels_55 (by decide) (fun c4 => ?_) (fun c4 => ?_)
    · have hf := if_t hf c4
      have hf := Option.some.inj hf
      subst hf
      exact rWv hc hP hD hS dX6_levels_162
    · have hf := if_f hf c4
      refine lv_iconst (v := (0 : Int32)) hx hb dX6_levels_58 (by decide) ?_
      refine lv_istore (lv' := [(11, .int (0 : Int32)), (0, .ref a0), (2, .int p2), (3, .ref a9), (4, .long v4), (6, .long v6), (8, .int v8), (9, .long v9)]) hx hb dX6_levels_59 hl (by decide) rfl (fun ls hl => ?_)
      exact w_X6_levels_back_c61 hc hK hA hO hN (m_X6_levels_back_c50 o_n o_own0 o_own1 o_near p2  n) ih FU v4 v6 v8 (0 : Int32) o_back hf _ _ hP hD hS ls (lv_sub hl [1, 2, 3, 4, 5, 6, 0] rfl)
def m_X6_levels_back_c3 (o_n : Int32) (o_own0 : Int64) (o_own1 : Int64) (o_near : Nat → Int64) (p1 : Int32) (p2 : Int32)  : Nat → Int32 → (Nat → Int32) → Option ((Nat → Int32))
  | 0, _, _ => none
  | n + 1, v4, o_back => (if (49 : Int32) ≤ v4 then ((m_X6_edge o_n p2).bind fun u2 => ((m_X6_reach o_n o_near u2 (m_X6_own o_own0 o_own1 p1)).bind fun u3 => (m_X6_levels_back_c50 o_n o_own0 o_own1 o_near p2 FU (m_X6_own o_own0 o_own1 p1) u3 (0 : Int32) (-1 : Int64) o_back))) else (if okI v4 49 = true then (m_X6_levels_back_c3 o_n o_own0 o_own1 o_near p1 p2  n (v4 + (1 : Int32)) (upd o_back v4.toNatClampNeg (100 : Int32))) else none))
set_option maxHeartbeats 4000000 in
set_option maxRecDepth 100000 in
theorem w_X6_levels_back_c3 {p : Program} {l : Launch} {e : Env} {s : State} {m : MethodId} {args : Array Value} {below : List Frame} {meth : Method} {c : Code} {D : va_G} {C : Nat → ClassId} {A : Nat → Prop} {a0 : Nat} {a1 : Nat} {a2 : Nat} {a3 : Nat} {a4 : Nat} {a5 : Nat} {a6 : Nat} {a7 : Nat} {a8 : Nat} {a9 : Nat} {a10 : Nat} {a11 : Nat} {a12 : Nat} {a13 : Nat} {a14 : Nat} {a15 : Nat} {o_n : Int32} {o_all : Int32} {o_made : Int32} {o_own0 : Int64} {o_own1 : Int64} {o_threatMany : Int32} {o_length : Int32} {o_holes : Int32} {o_tellings : Int32} {o_game : Nat → Int32} {o_near : Nat → Int64} {o_kept : Nat → Int32} {o_isKept : Nat → Int32} {o_threatOf : Nat → Int32} {o_threatSet : Nat → Int64} {o_text : Nat → Int32} {o_far : Nat → Int32} {o_hole : Nat → Int32} {o_isWon : Nat → Int32} {o_won : Nat → Int32} {o_lasts : Nat → Int32} {o_power : Nat → Int32} {o_told : Nat → Int32} {p1 : Int32} {p2 : Int32} {o : (Nat → Int32)} (hc : Cx p s m args meth c yX6_levels cX6_levels 12 none) (hK : va_K D vwCl (TY C) s) (hA : ∀ q : Nat, s.heap.size ≤ q → A q) (hO : va_P D vwCl ([] : va_W) s.heap) (hN : ∀ q ∈ ([] : va_W), ¬ A q.1) : ∀ (n : Nat), ∀ (v4 : Int32) (o_back : Nat → Int32), m_X6_levels_back_c3 o_n o_own0 o_own1 o_near p1 p2  n v4 o_back = some o → ∀ (H : Heap) (locs : List Loc), va_P D vwCl (wX6 C a0 a1 a2 a3 a4 a5 a6 a7 a8 a9 a10 a11 a12 a13 a14 a15 o_n o_all o_made o_own0 o_own1 o_threatMany o_length o_holes o_tellings o_game o_near o_kept o_isKept o_threatOf o_threatSet o_text o_far o_back o_hole o_isWon o_won o_lasts o_power o_told) H → va_D A (wX6 C a0 a1 a2 a3 a4 a5 a6 a7 a8 a9 a10 a11 a12 a13 a14 a15 o_n o_all o_made o_own0 o_own1 o_threatMany o_length o_holes o_tellings o_game o_near o_kept o_isKept o_threatOf o_threatSet o_text o_far o_back o_hole o_isWon o_won o_lasts o_power o_told) → va_S A s.heap H locs → ∀ (ls : Array Slot), lv_has ls 12 [(0, .ref a0), (1, .int p1), (2, .int p2), (3, .ref a9), (4, .int v4)] → W p l e R_X6_levels_back s m args below meth c H locs 0 0 (MQ below (QWv D (wX6 C a0 a1 a2 a3 a4 a5 a6 a7 a8 a9 a10 a11 a12 a13 a14 a15 o_n o_all o_made o_own0 o_own1 o_threatMany o_length o_holes o_tellings o_game o_near o_kept o_isKept o_threatOf o_threatSet o_text o_far o o_hole o_isWon o_won o_lasts o_power o_told) A) args s 0 0 A) (F0 m 3 ls []) := by
  have hx := hc.1
  have hb := hc.2.1
  have hown := hc.2.2.2.2.1
  have hts := hc.2.2.2.2.2.1
  intro n
  induction n with
  | zero =>
    intro v4 o_back hf
    exact no_some hf
  | succ n ih =>
    intro v4 o_back hf H locs hP hD hS ls hl
    refine lv_iload hx hb dX6_levels_3 (lv_at hl 4 rfl) ?_
    refine lv_bipush (v := (49 : Int32)) hx hb dX6_levels_5 (by decide) ?_
    refine lv_icmp_ge (tgt := 22) hx hb dX6_levels_7 (by decide) (fun c1 => ?_) (fun c1 => ?_)
    · have hf := if_t hf c1
      refine lv_aload_n hx hb dX6_levels_22 rfl (lv_at hl 0 rfl) ?_
      refine lv_iload_n hx hb dX6_levels_23 rfl (lv_at hl 1 rfl) ?_
      refine rcVl (As := [.int p1]) (rest := []) hc k_X6_139 (c_X6_own l D C a0 o_n a1 o_all o_made o_own0 o_own1 a2 a3 a4 a5 a6 o_threatMany a7 o_length a8 a9 a10 o_holes a11 a12 a13 a14 a15 o_tellings p1  _ rfl) ⟨rfl, rfl, Nat.le_of_ble_eq_true rfl, Nat.le_of_ble_eq_true rfl⟩ (hP.sub [0] rfl) hK (q0 := 0) rfl rfl rfl hl rfl rfl (Nat.le_of_ble_eq_true rfl) ⟨Nat.zero_le _, Nat.zero_le _⟩ dX6_levels_24 ?_
      refine lv_lstore (lv' := [(4, .long (m_X6_own o_own0 o_own1 p1)), (0, .ref a0), (1, .int p1), (2, .int p2), (3, .ref a9)]) hx hb dX6_levels_27 hl (by decide) rfl (fun ls hl => ?_)
      refine lv_aload_n hx hb dX6_levels_29 rfl (lv_at hl 1 rfl) ?_
      refine lv_aload_n hx hb dX6_levels_30 rfl (lv_at hl 1 rfl) ?_
      refine lv_iload_n hx hb dX6_levels_31 rfl (lv_at hl 3 rfl) ?_
      obtain ⟨u2, hu2, hf⟩ := bind_some hf
      refine rcVl (As := [.int p2]) (rest := [.ref a0]) hc k_X6_93 (c_X6_edge l D C a0 o_n a1 o_all o_made o_own0 o_own1 a2 a3 a4 a5 a6 o_threatMany a7 o_length a8 a9 a10 o_holes a11 a12 a13 a14 a15 o_tellings p2  _ hu2) ⟨rfl, rfl, Nat.le_of_ble_eq_true rfl, Nat.le_of_ble_eq_true rfl⟩ (hP.sub [0] rfl) hK (q0 := 0) rfl rfl rfl hl rfl rfl (Nat.le_of_ble_eq_true rfl) ⟨Nat.zero_le _, Nat.zero_le _⟩ dX6_levels_32 ?_
      refine lv_lload hx hb dX6_levels_35 (lv_at hl 0 rfl) ?_
      obtain ⟨u3, hu3, hf⟩ := bind_some hf
      refine rcVl (As := [.long u2, .long (m_X6_own o_own0 o_own1 p1)]) (rest := []) hc k_X6_97 (c_X6_reach l D C a0 a2 o_n a1 o_all o_made o_own0 o_own1 a3 a4 a5 a6 o_threatMany a7 o_length a8 a9 a10 o_holes a11 a12 a13 a14 a15 o_tellings o_near u2 (m_X6_own o_own0 o_own1 p1)  _ hu3) ⟨rfl, rfl, Nat.le_of_ble_eq_true rfl, Nat.le_of_ble_eq_true rfl⟩ (hP.sub [0, 2] rfl) hK (q0 := 0) rfl rfl rfl hl rfl rfl (Nat.le_of_ble_eq_true rfl) ⟨Nat.zero_le _, Nat.zero_le _⟩ dX6_levels_37 ?_
      refine lv_lstore (lv' := [(6, .long u3), (4, .long (m_X6_own o_own0 o_own1 p1)), (0, .ref a0), (1, .int p1), (2, .int p2), (3, .ref a9)]) hx hb dX6_levels_40 hl (by decide) rfl (fun ls hl => ?_)
      refine lv_iconst (v := (0 : Int32)) hx hb dX6_levels_42 (by decide) ?_
      refine lv_istore (lv' := [(8, .int (0 : Int32)), (6, .long u3), (4, .long (m_X6_own o_own0 o_own1 p1)), (0, .ref a0), (1, .int p1), (2, .int p2), (3, .ref a9)]) hx hb dX6_levels_43 hl (by decide) rfl (fun ls hl => ?_)
      refine lv_ldc2 (v := (-1 : Int64)) hx hb hown (hts _ q_760) dX6_levels_45 ?_
      refine lv_lstore (lv' := [(9, .long (-1 : Int64)), (8, .int (0 : Int32)), (6, .long u3), (4, .long (m_X6_own o_own0 o_own1 p1)), (0, .ref a0), (1, .int p1), (2, .int p2), (3, .ref a9)]) hx hb dX6_levels_48 hl (by decide) rfl (fun ls hl => ?_)
      exact w_X6_levels_back_c50 hc hK hA hO hN  FU (m_X6_own o_own0 o_own1 p1) u3 (0 : Int32) (-1 : Int64) o_back hf _ _ hP hD hS ls (lv_sub hl [4, 6, 7, 3, 2, 1, 0] rfl)
    · have hf := if_f hf c1
      refine lv_aload_n hx hb dX6_levels_10 rfl (lv_at hl 3 rfl) ?_
      refine lv_iload hx hb dX6_levels_11 (lv_at hl 4 rfl) ?_
      refine lv_bipush (v := (100 : Int32)) hx hb dX6_levels_13 (by decide) ?_
      obtain ⟨h15, hf⟩ := ok_t hf
      refine va_iast hx hb hK hP hD hS 9 0 rfl rfl (okI_in h15) dX6_levels_15 (fun H locs hP hD hS => ?_)
      have hP : va_P D vwCl (wX6 C a0 a1 a2 a3 a4 a5 a6 a7 a8 a9 a10 a11 a12 a13 a14 a15 o_n o_all o_made o_own0 o_own1 o_threatMany o_length o_holes o_tellings o_game o_near o_kept o_isKept o_threatOf o_threatSet o_text o_far (upd o_back v4.toNatClampNeg (100 : Int32)) o_hole o_isWon o_won o_lasts o_power o_told) H := hP
      have hD : va_D A (wX6 C a0 a1 a2 a3 a4 a5 a6 a7 a8 a9 a10 a11 a12 a13 a14 a15 o_n o_all o_made o_own0 o_own1 o_threatMany o_length o_holes o_tellings o_game o_near o_kept o_isKept o_threatOf o_threatSet o_text o_far (upd o_back v4.toNatClampNeg (100 : Int32)) o_hole o_isWon o_won o_lasts o_power o_told) := hD
      refine lv_iinc (v := (v4 + (1 : Int32))) (lv' := [(4, .int (v4 + (1 : Int32))), (0, .ref a0), (1, .int p1), (2, .int p2), (3, .ref a9)]) hx hb dX6_levels_16 hl (k := 4) rfl rfl (by decide) rfl (fun ls hl => ?_)
      refine lv_goto (tgt := 3) hx hb dX6_levels_19 (by decide) ?_
      exact ih (v4 + (1 : Int32)) (upd o_back v4.toNatClampNeg (100 : Int32)) hf _ _ hP hD hS ls (lv_sub hl [1, 2, 3, 4, 0] rfl)
def m_X6_levels_back (o_n : Int32) (o_own0 : Int64) (o_own1 : Int64) (o_near : Nat → Int64) (o_back : Nat → Int32) (p1 : Int32) (p2 : Int32) : Option ((Nat → Int32)) := (m_X6_levels_back_c3 o_n o_own0 o_own1 o_near p1 p2 FU (0 : Int32) o_back)
set_option maxHeartbeats 4000000 in
set_option maxRecDepth 100000 in
theorem c_X6_levels_back (l : Launch) (D : va_G) (C : Nat → ClassId) (sz : Nat) (a0 : Nat) (a1 : Nat) (a2 : Nat) (a3 : Nat) (a4 : Nat) (a5 : Nat) (a6 : Nat) (a7 : Nat) (a8 : Nat) (a9 : Nat) (a10 : Nat) (a11 : Nat) (a12 : Nat) (a13 : Nat) (a14 : Nat) (a15 : Nat) (o_n : Int32) (o_all : Int32) (o_made : Int32) (o_own0 : Int64) (o_own1 : Int64) (o_threatMany : Int32) (o_length : Int32) (o_holes : Int32) (o_tellings : Int32) (o_game : Nat → Int32) (o_near : Nat → Int64) (o_kept : Nat → Int32) (o_isKept : Nat → Int32) (o_threatOf : Nat → Int32) (o_threatSet : Nat → Int64) (o_text : Nat → Int32) (o_far : Nat → Int32) (o_back : Nat → Int32) (o_hole : Nat → Int32) (o_isWon : Nat → Int32) (o_won : Nat → Int32) (o_lasts : Nat → Int32) (o_power : Nat → Int32) (o_told : Nat → Int32) (p1 : Int32) (p2 : Int32) (o : (Nat → Int32)) (hf : m_X6_levels_back o_n o_own0 o_own1 o_near o_back p1 p2 = some o) : Met l yX6_levels (wl yX6_levels cX6_levels 12 none) R_X6_levels_back (PW [.ref a0, .int p1, .int p2, .ref a9] D C sz (wX6 C a0 a1 a2 a3 a4 a5 a6 a7 a8 a9 a10 a11 a12 a13 a14 a15 o_n o_all o_made o_own0 o_own1 o_threatMany o_length o_holes o_tellings o_game o_near o_kept o_isKept o_threatOf o_threatSet o_text o_far o_back o_hole o_isWon o_won o_lasts o_power o_told) ([] : va_W)) (QWv D (wX6 C a0 a1 a2 a3 a4 a5 a6 a7 a8 a9 a10 a11 a12 a13 a14 a15 o_n o_all o_made o_own0 o_own1 o_threatMany o_length o_holes o_tellings o_game o_near o_kept o_isKept o_threatOf o_threatSet o_text o_far o o_hole o_isWon o_won o_lasts o_power o_told) (va_A (wX6 C a0 a1 a2 a3 a4 a5 a6 a7 a8 a9 a10 a11 a12 a13 a14 a15 o_n o_all o_made o_own0 o_own1 o_threatMany o_length o_holes o_tellings o_game o_near o_kept o_isKept o_threatOf o_threatSet o_text o_far o_back o_hole o_isWon o_won o_lasts o_power o_told) sz)) 0 0 (va_A (wX6 C a0 a1 a2 a3 a4 a5 a6 a7 a8 a9 a10 a11 a12 a13 a14 a15 o_n o_all o_made o_own0 o_own1 o_threatMany o_length o_holes o_tellings o_game o_near o_kept o_isKept o_threatOf o_threatSet o_text o_far o_back o_hole o_isWon o_won o_lasts o_power o_told) sz) := by
  refine Met_ofC (by decide) ?_
  intro p e s m args below meth c hc hv
  obtain ⟨rfl, hsz, hP, hK, hD0, hO, hN0⟩ := hv
  subst hsz
  have hD := hD0.self (sz := s.heap.size)
  have hN : ∀ q ∈ ([] : va_W), ¬ va_A (wX6 C a0 a1 a2 a3 a4 a5 a6 a7 a8 a9 a10 a11 a12 a13 a14 a15 o_n o_all o_made o_own0 o_own1 o_threatMany o_length o_holes o_tellings o_game o_near o_kept o_isKept o_threatOf o_threatSet o_text o_far o_back o_hole o_isWon o_won o_lasts o_power o_told) s.heap.size q.1 := hN0
  generalize hAe : va_A (wX6 C a0 a1 a2 a3 a4 a5 a6 a7 a8 a9 a10 a11 a12 a13 a14 a15 o_n o_all o_made o_own0 o_own1 o_threatMany o_length o_holes o_tellings o_game o_near o_kept o_isKept o_threatOf o_threatSet o_text o_far o_back o_hole o_isWon o_won o_lasts o_power o_told) s.heap.size = A at hD hN ⊢
  have hA : ∀ q : Nat, s.heap.size ≤ q → A q := fun q h => by rw [← hAe]; exact Or.inr h
  have hS : va_S A s.heap s.heap [] := va_S.rf
  have hx := hc.1
  have hb := hc.2.1
  have hown := hc.2.2.2.2.1
  have hts := hc.2.2.2.2.2.1
  refine en_F rfl (fun ls hl => ?_)
  have hl : lv_has ls 12 [(0, .ref a0), (1, .int p1), (2, .int p2), (3, .ref a9)] := hl
  refine lv_iconst (v := (0 : Int32)) hx hb dX6_levels_0 (by decide) ?_
  refine lv_istore (lv' := [(4, .int (0 : Int32)), (0, .ref a0), (1, .int p1), (2, .int p2), (3, .ref a9)]) hx hb dX6_levels_1 hl (by decide) rfl (fun ls hl => ?_)
  exact w_X6_levels_back_c3 hc hK hA hO hN  FU (0 : Int32) o_back hf _ _ hP hD hS ls (lv_sub hl [1, 2, 3, 4, 0] rfl)
abbrev R_X6_distanceOf : Room := { frames := 4, cells := 0, slots := 0, locals := 106 }
def m_X6_distanceOf_c76  (k29 : Int64 → Int32 → Int32 → (Nat → Int32) → Option (Int32 × (Nat → Int32))) (v2 : Int64) (v5 : Int32) (t0 : Int32) (o_far : Nat → Int32) : Option (Int32 × (Nat → Int32)) := (k29 v2 t0 (v5 + (1 : Int32)) o_far)
set_option maxHeartbeats 4000000 in
set_option maxRecDepth 100000 in
theorem w_X6_distanceOf_c76 {p : Program} {l : Launch} {e : Env} {s : State} {m : MethodId} {args : Array Value} {below : List Frame} {meth : Method} {c : Code} {D : va_G} {C : Nat → ClassId} {A : Nat → Prop} {a0 : Nat} {a1 : Nat} {a2 : Nat} {a3 : Nat} {a4 : Nat} {a5 : Nat} {a6 : Nat} {a7 : Nat} {a8 : Nat} {a9 : Nat} {a10 : Nat} {a11 : Nat} {a12 : Nat} {a13 : Nat} {a14 : Nat} {a15 : Nat} {o_n : Int32} {o_all : Int32} {o_made : Int32} {o_own0 : Int64} {o_own1 : Int64} {o_threatMany : Int32} {o_length : Int32} {o_holes : Int32} {o_tellings : Int32} {o_game : Nat → Int32} {o_near : Nat → Int64} {o_kept : Nat → Int32} {o_isKept : Nat → Int32} {o_threatOf : Nat → Int32} {o_threatSet : Nat → Int64} {o_text : Nat → Int32} {o_back : Nat → Int32} {o_hole : Nat → Int32} {o_isWon : Nat → Int32} {o_won : Nat → Int32} {o_lasts : Nat → Int32} {o_power : Nat → Int32} {o_told : Nat → Int32} {o : Int32 × (Nat → Int32)} (hc : Cx p s m args meth c yX6_distanceOf cX6_distanceOf 6 (some .int)) (hK : va_K D vwCl (TY C) s) (hA : ∀ q : Nat, s.heap.size ≤ q → A q) (hO : va_P D vwCl ([] : va_W) s.heap) (hN : ∀ q ∈ ([] : va_W), ¬ A q.1) (k29 : Int64 → Int32 → Int32 → (Nat → Int32) → Option (Int32 × (Nat → Int32))) (hk29 : ∀ (v2 : Int64) (v4 : Int32) (v5 : Int32) (o_far : Nat → Int32), k29 v2 v4 v5 o_far = some o → ∀ (H : Heap) (locs : List Loc), va_P D vwCl (wX6 C a0 a1 a2 a3 a4 a5 a6 a7 a8 a9 a10 a11 a12 a13 a14 a15 o_n o_all o_made o_own0 o_own1 o_threatMany o_length o_holes o_tellings o_game o_near o_kept o_isKept o_threatOf o_threatSet o_text o_far o_back o_hole o_isWon o_won o_lasts o_power o_told) H → va_D A (wX6 C a0 a1 a2 a3 a4 a5 a6 a7 a8 a9 a10 a11 a12 a13 a14 a15 o_n o_all o_made o_own0 o_own1 o_threatMany o_length o_holes o_tellings o_game o_near o_kept o_isKept o_threatOf o_threatSet o_text o_far o_back o_hole o_isWon o_won o_lasts o_power o_told) → va_S A s.heap H locs → ∀ (ls : Array Slot), lv_has ls 6 [(0, .ref a0), (2, .long v2), (4, .int v4), (5, .int v5)] → W p l e R_X6_distanceOf s m args below meth c H locs 0 0 (MQ below (QWi D o.1 (wX6 C a0 a1 a2 a3 a4 a5 a6 a7 a8 a9 a10 a11 a12 a13 a14 a15 o_n o_all o_made o_own0 o_own1 o_threatMany o_length o_holes o_tellings o_game o_near o_kept o_isKept o_threatOf o_threatSet o_text o.2 o_back o_hole o_isWon o_won o_lasts o_power o_told) A) args s 0 0 A) (F0 m 29 ls [])) : ∀ (v2 : Int64) (v5 : Int32) (t0 : Int32) (o_far : Nat → Int32), m_X6_distanceOf_c76  k29 v2 v5 t0 o_far = some o → ∀ (H : Heap) (locs : List Loc), va_P D vwCl (wX6 C a0 a1 a2 a3 a4 a5 a6 a7 a8 a9 a10 a11 a12 a13 a14 a15 o_n o_all o_made o_own0 o_own1 o_threatMany o_length o_holes o_tellings o_game o_near o_kept o_isKept o_threatOf o_threatSet o_text o_far o_back o_hole o_isWon o_won o_lasts o_power o_told) H → va_D A (wX6 C a0 a1 a2 a3 a4 a5 a6 a7 a8 a9 a10 a11 a12 a13 a14 a15 o_n o_all o_made o_own0 o_own1 o_threatMany o_length o_holes o_tellings o_game o_near o_kept o_isKept o_threatOf o_threatSet o_text o_far o_back o_hole o_isWon o_won o_lasts o_power o_told) → va_S A s.heap H locs → ∀ (ls : Array Slot), lv_has ls 6 [(0, .ref a0), (2, .long v2), (5, .int v5)] → W p l e R_X6_distanceOf s m args below meth c H locs 0 0 (MQ below (QWi D o.1 (wX6 C a0 a1 a2 a3 a4 a5 a6 a7 a8 a9 a10 a11 a12 a13 a14 a15 o_n o_all o_made o_own0 o_own1 o_threatMany o_length o_holes o_tellings o_game o_near o_kept o_isKept o_threatOf o_threatSet o_text o.2 o_back o_hole o_isWon o_won o_lasts o_power o_told) A) args s 0 0 A) (F0 m 76 ls [.int t0]) := by
  have hx := hc.1
  have hb := hc.2.1
  have hown := hc.2.2.2.2.1
  have hts := hc.2.2.2.2.2.1
  intro v2 v5 t0 o_far hf H locs hP hD hS ls hl
  refine lv_istore (lv' := [(4, .int t0), (0, .ref a0), (2, .long v2), (5, .int v5)]) hx hb dX6_distanceOf_76 hl (by decide) rfl (fun ls hl => ?_)
  refine lv_iinc (v := (v5 + (1 : Int32))) (lv' := [(5, .int (v5 + (1 : Int32))), (4, .int t0), (0, .ref a0), (2, .long v2)]) hx hb dX6_distanceOf_78 hl (k := 3) rfl rfl (by decide) rfl (fun ls hl => ?_)
  refine lv_goto (tgt := 29) hx hb dX6_distanceOf_81 (by decide) ?_
  exact hk29 v2 t0 (v5 + (1 : Int32)) o_far hf _ _ hP hD hS ls (lv_sub hl [2, 3, 1, 0] rfl)
def m_X6_distanceOf_c74  (k29 : Int64 → Int32 → Int32 → (Nat → Int32) → Option (Int32 × (Nat → Int32))) (v2 : Int64) (v4 : Int32) (v5 : Int32) (o_far : Nat → Int32) : Option (Int32 × (Nat → Int32)) := (m_X6_distanceOf_c76 k29 v2 v5 v4 o_far)
set_option maxHeartbeats 4000000 in
set_option maxRecDepth 100000 in
theorem w_X6_distanceOf_c74 {p : Program} {l : Launch} {e : Env} {s : State} {m : MethodId} {args : Array Value} {below : List Frame} {meth : Method} {c : Code} {D : va_G} {C : Nat → ClassId} {A : Nat → Prop} {a0 : Nat} {a1 : Nat} {a2 : Nat} {a3 : Nat} {a4 : Nat} {a5 : Nat} {a6 : Nat} {a7 : Nat} {a8 : Nat} {a9 : Nat} {a10 : Nat} {a11 : Nat} {a12 : Nat} {a13 : Nat} {a14 : Nat} {a15 : Nat} {o_n : Int32} {o_all : Int32} {o_made : Int32} {o_own0 : Int64} {o_own1 : Int64} {o_threatMany : Int32} {o_length : Int32} {o_holes : Int32} {o_tellings : Int32} {o_game : Nat → Int32} {o_near : Nat → Int64} {o_kept : Nat → Int32} {o_isKept : Nat → Int32} {o_threatOf : Nat → Int32} {o_threatSet : Nat → Int64} {o_text : Nat → Int32} {o_back : Nat → Int32} {o_hole : Nat → Int32} {o_isWon : Nat → Int32} {o_won : Nat → Int32} {o_lasts : Nat → Int32} {o_power : Nat → Int32} {o_told : Nat → Int32} {o : Int32 × (Nat → Int32)} (hc : Cx p s m args meth c yX6_distanceOf cX6_distanceOf 6 (some .int)) (hK : va_K D vwCl (TY C) s) (hA : ∀ q : Nat, s.heap.size ≤ q → A q) (hO : va_P D vwCl ([] : va_W) s.heap) (hN : ∀ q ∈ ([] : va_W), ¬ A q.1) (k29 : Int64 → Int32 → Int32 → (Nat → Int32) → Option (Int32 × (Nat → Int32))) (hk29 : ∀ (v2 : Int64) (v4 : Int32) (v5 : Int32) (o_far : Nat → Int32), k29 v2 v4 v5 o_far = some o → ∀ (H : Heap) (locs : List Loc), va_P D vwCl (wX6 C a0 a1 a2 a3 a4 a5 a6 a7 a8 a9 a10 a11 a12 a13 a14 a15 o_n o_all o_made o_own0 o_own1 o_threatMany o_length o_holes o_tellings o_game o_near o_kept o_isKept o_threatOf o_threatSet o_text o_far o_back o_hole o_isWon o_won o_lasts o_power o_told) H → va_D A (wX6 C a0 a1 a2 a3 a4 a5 a6 a7 a8 a9 a10 a11 a12 a13 a14 a15 o_n o_all o_made o_own0 o_own1 o_threatMany o_length o_holes o_tellings o_game o_near o_kept o_isKept o_threatOf o_threatSet o_text o_far o_back o_hole o_isWon o_won o_lasts o_power o_told) → va_S A s.heap H locs → ∀ (ls : Array Slot), lv_has ls 6 [(0, .ref a0), (2, .long v2), (4, .int v4), (5, .int v5)] → W p l e R_X6_distanceOf s m args below meth c H locs 0 0 (MQ below (QWi D o.1 (wX6 C a0 a1 a2 a3 a4 a5 a6 a7 a8 a9 a10 a11 a12 a13 a14 a15 o_n o_all o_made o_own0 o_own1 o_threatMany o_length o_holes o_tellings o_game o_near o_kept o_isKept o_threatOf o_threatSet o_text o.2 o_back o_hole o_isWon o_won o_lasts o_power o_told) A) args s 0 0 A) (F0 m 29 ls [])) : ∀ (v2 : Int64) (v4 : Int32) (v5 : Int32) (o_far : Nat → Int32), m_X6_distanceOf_c74  k29 v2 v4 v5 o_far = some o → ∀ (H : Heap) (locs : List Loc), va_P D vwCl (wX6 C a0 a1 a2 a3 a4 a5 a6 a7 a8 a9 a10 a11 a12 a13 a14 a15 o_n o_all o_made o_own0 o_own1 o_threatMany o_length o_holes o_tellings o_game o_near o_kept o_isKept o_threatOf o_threatSet o_text o_far o_back o_hole o_isWon o_won o_lasts o_power o_told) H → va_D A (wX6 C a0 a1 a2 a3 a4 a5 a6 a7 a8 a9 a10 a11 a12 a13 a14 a15 o_n o_all o_made o_own0 o_own1 o_threatMany o_length o_holes o_tellings o_game o_near o_kept o_isKept o_threatOf o_threatSet o_text o_far o_back o_hole o_isWon o_won o_lasts o_power o_told) → va_S A s.heap H locs → ∀ (ls : Array Slot), lv_has ls 6 [(0, .ref a0), (2, .long v2), (4, .int v4), (5, .int v5)] → W p l e R_X6_distanceOf s m args below meth c H locs 0 0 (MQ below (QWi D o.1 (wX6 C a0 a1 a2 a3 a4 a5 a6 a7 a8 a9 a10 a11 a12 a13 a14 a15 o_n o_all o_made o_own0 o_own1 o_threatMany o_length o_holes o_tellings o_game o_near o_kept o_isKept o_threatOf o_threatSet o_text o.2 o_back o_hole o_isWon o_won o_lasts o_power o_told) A) args s 0 0 A) (F0 m 74 ls []) := by
  have hx := hc.1
  have hb := hc.2.1
  have hown := hc.2.2.2.2.1
  have hts := hc.2.2.2.2.2.1
  intro v2 v4 v5 o_far hf H locs hP hD hS ls hl
  refine lv_iload hx hb dX6_distanceOf_74 (lv_at hl 2 rfl) ?_
  exact w_X6_distanceOf_c76 hc hK hA hO hN k29 hk29 v2 v5 v4 o_far hf _ _ hP hD hS ls (lv_sub hl [0, 1, 3] rfl)
def m_X6_distanceOf_c29 (o_n : Int32)  : Nat → Int64 → Int32 → Int32 → (Nat → Int32) → Option (Int32 × (Nat → Int32))
  | 0, _, _, _, _ => none
  | n + 1, v2, v4, v5, o_far => (if (o_n * o_n) ≤ v5 then (if v4 = (100 : Int32) then some ((-15 : Int32), o_far) else some (v4, o_far)) else (if (m_X6_has v2 v5) = 0 then (m_X6_distanceOf_c74 (m_X6_distanceOf_c29 o_n  n) v2 v4 v5 o_far) else (if okI v5 49 = true then (if v4 ≤ (o_far v5.toNatClampNeg) then (m_X6_distanceOf_c74 (m_X6_distanceOf_c29 o_n  n) v2 v4 v5 o_far) else (if okI v5 49 = true then (m_X6_distanceOf_c76 (m_X6_distanceOf_c29 o_n  n) v2 v5 (o_far v5.toNatClampNeg) o_far) else none)) else none)))
set_option maxHeartbeats 4000000 in
set_option maxRecDepth 100000 in
theorem w_X6_distanceOf_c29 {p : Program} {l : Launch} {e : Env} {s : State} {m : MethodId} {args : Array Value} {below : List Frame} {meth : Method} {c : Code} {D : va_G} {C : Nat → ClassId} {A : Nat → Prop} {a0 : Nat} {a1 : Nat} {a2 : Nat} {a3 : Nat} {a4 : Nat} {a5 : Nat} {a6 : Nat} {a7 : Nat} {a8 : Nat} {a9 : Nat} {a10 : Nat} {a11 : Nat} {a12 : Nat} {a13 : Nat} {a14 : Nat} {a15 : Nat} {o_n : Int32} {o_all : Int32} {o_made : Int32} {o_own0 : Int64} {o_own1 : Int64} {o_threatMany : Int32} {o_length : Int32} {o_holes : Int32} {o_tellings : Int32} {o_game : Nat → Int32} {o_near : Nat → Int64} {o_kept : Nat → Int32} {o_isKept : Nat → Int32} {o_threatOf : Nat → Int32} {o_threatSet : Nat → Int64} {o_text : Nat → Int32} {o_back : Nat → Int32} {o_hole : Nat → Int32} {o_isWon : Nat → Int32} {o_won : Nat → Int32} {o_lasts : Nat → Int32} {o_power : Nat → Int32} {o_told : Nat → Int32} {o : Int32 × (Nat → Int32)} (hc : Cx p s m args meth c yX6_distanceOf cX6_distanceOf 6 (some .int)) (hK : va_K D vwCl (TY C) s) (hA : ∀ q : Nat, s.heap.size ≤ q → A q) (hO : va_P D vwCl ([] : va_W) s.heap) (hN : ∀ q ∈ ([] : va_W), ¬ A q.1) : ∀ (n : Nat), ∀ (v2 : Int64) (v4 : Int32) (v5 : Int32) (o_far : Nat → Int32), m_X6_distanceOf_c29 o_n  n v2 v4 v5 o_far = some o → ∀ (H : Heap) (locs : List Loc), va_P D vwCl (wX6 C a0 a1 a2 a3 a4 a5 a6 a7 a8 a9 a10 a11 a12 a13 a14 a15 o_n o_all o_made o_own0 o_own1 o_threatMany o_length o_holes o_tellings o_game o_near o_kept o_isKept o_threatOf o_threatSet o_text o_far o_back o_hole o_isWon o_won o_lasts o_power o_told) H → va_D A (wX6 C a0 a1 a2 a3 a4 a5 a6 a7 a8 a9 a10 a11 a12 a13 a14 a15 o_n o_all o_made o_own0 o_own1 o_threatMany o_length o_holes o_tellings o_game o_near o_kept o_isKept o_threatOf o_threatSet o_text o_far o_back o_hole o_isWon o_won o_lasts o_power o_told) → va_S A s.heap H locs → ∀ (ls : Array Slot), lv_has ls 6 [(0, .ref a0), (2, .long v2), (4, .int v4), (5, .int v5)] → W p l e R_X6_distanceOf s m args below meth c H locs 0 0 (MQ below (QWi D o.1 (wX6 C a0 a1 a2 a3 a4 a5 a6 a7 a8 a9 a10 a11 a12 a13 a14 a15 o_n o_all o_made o_own0 o_own1 o_threatMany o_length o_holes o_tellings o_game o_near o_kept o_isKept o_threatOf o_threatSet o_text o.2 o_back o_hole o_isWon o_won o_lasts o_power o_told) A) args s 0 0 A) (F0 m 29 ls []) := by
  have hx := hc.1
  have hb := hc.2.1
  have hown := hc.2.2.2.2.1
  have hts := hc.2.2.2.2.2.1
  intro n
  induction n with
  | zero =>
    intro v2 v4 v5 o_far hf
    exact no_some hf
  | succ n ih =>
    intro v2 v4 v5 o_far hf H locs hP hD hS ls hl
    refine lv_iload hx hb dX6_distanceOf_29 (lv_at hl 3 rfl) ?_
    refine lv_aload_n hx hb dX6_distanceOf_31 rfl (lv_at hl 0 rfl) ?_
    refine va_get (D := D) (ci := 6) (v := .int o_n) (C := RX6) (T := TX6) (N := 24) hx hb hts inX6 hown hK hP 0 rfl rfl 0 (by decide) (hts _ q_654) (fun _ h9 => h9) rfl dX6_distanceOf_32 ?_
    refine lv_aload_n hx hb dX6_distanceOf_35 rfl (lv_at hl 0 rfl) ?_
    refine va_get (D := D) (ci := 6) (v := .int o_n) (C := RX6) (T := TX6) (N := 24) hx hb hts inX6 hown hK hP 0 rfl rfl 0 (by decide) (hts _ q_654) (fun _ h9 => h9) rfl dX6_distanceOf_36 ?_
    refine lv_imul hx hb dX6_distanceOf_39 ?_
    refine lv_icmp_ge (tgt := 84) hx hb dX6_distanceOf_40 (by decide) (fun c3 => ?_) (fun c3 => ?_)
    · have hf := if_t hf c3
      refine lv_iload hx hb dX6_distanceOf_84 (lv_at hl 2 rfl) ?_
      refine lv_bipush (v := (100 : Int32)) hx hb dX6_distanceOf_86 (by decide) ?_
      refine lv_icmp_ne (tgt := 96) hx hb dX6_distanceOf_88 (by decide) (fun c4 => ?_) (fun c4 => ?_)
      · have hf := if_f hf c4
        refine lv_iload hx hb dX6_distanceOf_96 (lv_at hl 2 rfl) ?_
        have hf := Option.some.inj hf
        subst hf
        exact rWi hc rfl hP hD hS dX6_distanceOf_98
      · have hf := if_t hf c4
        refine lv_bipush (v := (-15 : Int32)) hx hb dX6_distanceOf_91 (by decide) ?_
        refine lv_goto (tgt := 98) hx hb dX6_distanceOf_93 (by decide) ?_
        have hf := Option.some.inj hf
        subst hf
        exact rWi hc rfl hP hD hS dX6_distanceOf_98
    · have hf := if_f hf c3
      refine lv_lload_n hx hb dX6_distanceOf_43 rfl (lv_at hl 1 rfl) ?_
      refine lv_iload hx hb dX6_distanceOf_44 (lv_at hl 3 rfl) ?_
      refine rcSi (As := [.long v2, .int v5]) (rest := []) hc k_X6_85 (c_X6_has l D C v2 v5  _ rfl) ⟨rfl, rfl, Nat.le_of_ble_eq_true rfl, Nat.le_of_ble_eq_true rfl⟩ (hP.sub [] rfl) hK hl rfl rfl (Nat.le_of_ble_eq_true rfl) ⟨Nat.zero_le _, Nat.zero_le _⟩ dX6_distanceOf_46 ?_
      refine lv_if_eq (tgt := 74) hx hb dX6_distanceOf_49 (by decide) (fun c5 => ?_) (fun c5 => ?_)
      · have hf := if_t hf c5
        exact w_X6_distanceOf_c74 hc hK hA hO hN (m_X6_distanceOf_c29 o_n  n) ih v2 v4 v5 o_far hf _ _ hP hD hS ls (lv_sub hl [0, 1, 2, 3] rfl)
      · have hf := if_f hf c5
        refine lv_aload_n hx hb dX6_distanceOf_52 rfl (lv_at hl 0 rfl) ?_
        refine va_get (D := D) (ci := 6) (v := .ref a8) (C := RX6) (T := TX6) (N := 24) hx hb hts inX6 hown hK hP 0 rfl rfl 14 (by decide) (hts _ q_668) (fun _ h9 => h9) rfl dX6_distanceOf_53 ?_
        refine lv_iload hx hb dX6_distanceOf_56 (lv_at hl 3 rfl) ?_
        obtain ⟨h6, hf⟩ := ok_t hf
        refine va_iald hx hb hK hP 8 0 rfl rfl (okI_in h6) dX6_distanceOf_58 ?_
        refine lv_iload hx hb dX6_distanceOf_59 (lv_at hl 2 rfl) ?_
        refine lv_icmp_ge (tgt := 74) hx hb dX6_distanceOf_61 (by decide) (fun c7 => ?_) (fun c7 => ?_)
        · have hf := if_t hf c7
          exact w_X6_distanceOf_c74 hc hK hA hO hN (m_X6_distanceOf_c29 o_n  n) ih v2 v4 v5 o_far hf _ _ hP hD hS ls (lv_sub hl [0, 1, 2, 3] rfl)
        · have hf := if_f hf c7
          refine lv_aload_n hx hb dX6_distanceOf_64 rfl (lv_at hl 0 rfl) ?_
          refine va_get (D := D) (ci := 6) (v := .ref a8) (C := RX6) (T := TX6) (N := 24) hx hb hts inX6 hown hK hP 0 rfl rfl 14 (by decide) (hts _ q_668) (fun _ h9 => h9) rfl dX6_distanceOf_65 ?_
          refine lv_iload hx hb dX6_distanceOf_68 (lv_at hl 3 rfl) ?_
          obtain ⟨h8, hf⟩ := ok_t hf
          refine va_iald hx hb hK hP 8 0 rfl rfl (okI_in h8) dX6_distanceOf_70 ?_
          refine lv_goto (tgt := 76) hx hb dX6_distanceOf_71 (by decide) ?_
          exact w_X6_distanceOf_c76 hc hK hA hO hN (m_X6_distanceOf_c29 o_n  n) ih v2 v5 (o_far v5.toNatClampNeg) o_far hf _ _ hP hD hS ls (lv_sub hl [0, 1, 3] rfl)
def m_X6_distanceOf (o_n : Int32) (o_own0 : Int64) (o_own1 : Int64) (o_near : Nat → Int64) (o_far : Nat → Int32) (p1 : Int32) : Option (Int32 × (Nat → Int32)) := ((m_X6_levels_far o_n o_own0 o_own1 o_near o_far p1 ((2 : Int32) * p1)).bind fun u1 => ((m_X6_edge o_n (((2 : Int32) * p1) + (1 : Int32))).bind fun u2 => (m_X6_distanceOf_c29 o_n FU u2 (100 : Int32) (0 : Int32) u1)))
set_option maxHeartbeats 4000000 in
set_option maxRecDepth 100000 in
theorem c_X6_distanceOf (l : Launch) (D : va_G) (C : Nat → ClassId) (sz : Nat) (a0 : Nat) (a1 : Nat) (a2 : Nat) (a3 : Nat) (a4 : Nat) (a5 : Nat) (a6 : Nat) (a7 : Nat) (a8 : Nat) (a9 : Nat) (a10 : Nat) (a11 : Nat) (a12 : Nat) (a13 : Nat) (a14 : Nat) (a15 : Nat) (o_n : Int32) (o_all : Int32) (o_made : Int32) (o_own0 : Int64) (o_own1 : Int64) (o_threatMany : Int32) (o_length : Int32) (o_holes : Int32) (o_tellings : Int32) (o_game : Nat → Int32) (o_near : Nat → Int64) (o_kept : Nat → Int32) (o_isKept : Nat → Int32) (o_threatOf : Nat → Int32) (o_threatSet : Nat → Int64) (o_text : Nat → Int32) (o_far : Nat → Int32) (o_back : Nat → Int32) (o_hole : Nat → Int32) (o_isWon : Nat → Int32) (o_won : Nat → Int32) (o_lasts : Nat → Int32) (o_power : Nat → Int32) (o_told : Nat → Int32) (p1 : Int32) (o : Int32 × (Nat → Int32)) (hf : m_X6_distanceOf o_n o_own0 o_own1 o_near o_far p1 = some o) : Met l yX6_distanceOf (wl yX6_distanceOf cX6_distanceOf 6 (some .int)) R_X6_distanceOf (PW [.ref a0, .int p1] D C sz (wX6 C a0 a1 a2 a3 a4 a5 a6 a7 a8 a9 a10 a11 a12 a13 a14 a15 o_n o_all o_made o_own0 o_own1 o_threatMany o_length o_holes o_tellings o_game o_near o_kept o_isKept o_threatOf o_threatSet o_text o_far o_back o_hole o_isWon o_won o_lasts o_power o_told) ([] : va_W)) (QWi D o.1 (wX6 C a0 a1 a2 a3 a4 a5 a6 a7 a8 a9 a10 a11 a12 a13 a14 a15 o_n o_all o_made o_own0 o_own1 o_threatMany o_length o_holes o_tellings o_game o_near o_kept o_isKept o_threatOf o_threatSet o_text o.2 o_back o_hole o_isWon o_won o_lasts o_power o_told) (va_A (wX6 C a0 a1 a2 a3 a4 a5 a6 a7 a8 a9 a10 a11 a12 a13 a14 a15 o_n o_all o_made o_own0 o_own1 o_threatMany o_length o_holes o_tellings o_game o_near o_kept o_isKept o_threatOf o_threatSet o_text o_far o_back o_hole o_isWon o_won o_lasts o_power o_told) sz)) 0 0 (va_A (wX6 C a0 a1 a2 a3 a4 a5 a6 a7 a8 a9 a10 a11 a12 a13 a14 a15 o_n o_all o_made o_own0 o_own1 o_threatMany o_length o_holes o_tellings o_game o_near o_kept o_isKept o_threatOf o_threatSet o_text o_far o_back o_hole o_isWon o_won o_lasts o_power o_told) sz) := by
  refine Met_ofC (by decide) ?_
  intro p e s m args below meth c hc hv
  obtain ⟨rfl, hsz, hP, hK, hD0, hO, hN0⟩ := hv
  subst hsz
  have hD := hD0.self (sz := s.heap.size)
  have hN : ∀ q ∈ ([] : va_W), ¬ va_A (wX6 C a0 a1 a2 a3 a4 a5 a6 a7 a8 a9 a10 a11 a12 a13 a14 a15 o_n o_all o_made o_own0 o_own1 o_threatMany o_length o_holes o_tellings o_game o_near o_kept o_isKept o_threatOf o_threatSet o_text o_far o_back o_hole o_isWon o_won o_lasts o_power o_told) s.heap.size q.1 := hN0
  generalize hAe : va_A (wX6 C a0 a1 a2 a3 a4 a5 a6 a7 a8 a9 a10 a11 a12 a13 a14 a15 o_n o_all o_made o_own0 o_own1 o_threatMany o_length o_holes o_tellings o_game o_near o_kept o_isKept o_threatOf o_threatSet o_text o_far o_back o_hole o_isWon o_won o_lasts o_power o_told) s.heap.size = A at hD hN ⊢
  have hA : ∀ q : Nat, s.heap.size ≤ q → A q := fun q h => by rw [← hAe]; exact Or.inr h
  have hS : va_S A s.heap s.heap [] := va_S.rf
  have hx := hc.1
  have hb := hc.2.1
  have hown := hc.2.2.2.2.1
  have hts := hc.2.2.2.2.2.1
  refine en_F rfl (fun ls hl => ?_)
  have hl : lv_has ls 6 [(0, .ref a0), (1, .int p1)] := hl
  refine lv_aload_n hx hb dX6_distanceOf_0 rfl (lv_at hl 0 rfl) ?_
  refine lv_iload_n hx hb dX6_distanceOf_1 rfl (lv_at hl 1 rfl) ?_
  refine lv_iconst (v := (2 : Int32)) hx hb dX6_distanceOf_2 (by decide) ?_
  refine lv_iload_n hx hb dX6_distanceOf_3 rfl (lv_at hl 1 rfl) ?_
  refine lv_imul hx hb dX6_distanceOf_4 ?_
  refine lv_aload_n hx hb dX6_distanceOf_5 rfl (lv_at hl 0 rfl) ?_
  refine va_get (D := D) (ci := 6) (v := .ref a8) (C := RX6) (T := TX6) (N := 24) hx hb hts inX6 hown hK hP 0 rfl rfl 14 (by decide) (hts _ q_668) (fun _ h9 => h9) rfl dX6_distanceOf_6 ?_
  obtain ⟨u1, hu1, hf⟩ := bind_some hf
  refine wcVv (A := A) (wc := wX6 C a0 a1 a2 a3 a4 a5 a6 a7 a8 a9 a10 a11 a12 a13 a14 a15 o_n o_all o_made o_own0 o_own1 o_threatMany o_length o_holes o_tellings o_game o_near o_kept o_isKept o_threatOf o_threatSet o_text o_far o_back o_hole o_isWon o_won o_lasts o_power o_told) (w1 := wX6 C a0 a1 a2 a3 a4 a5 a6 a7 a8 a9 a10 a11 a12 a13 a14 a15 o_n o_all o_made o_own0 o_own1 o_threatMany o_length o_holes o_tellings o_game o_near o_kept o_isKept o_threatOf o_threatSet o_text u1 o_back o_hole o_isWon o_won o_lasts o_power o_told) (rc := []) (As := [.int p1, .int ((2 : Int32) * p1), .ref a8]) (rest := []) hc k_X6_151 (c_X6_levels_far l D C _ a0 a1 a2 a3 a4 a5 a6 a7 a8 a9 a10 a11 a12 a13 a14 a15 o_n o_all o_made o_own0 o_own1 o_threatMany o_length o_holes o_tellings o_game o_near o_kept o_isKept o_threatOf o_threatSet o_text o_far o_back o_hole o_isWon o_won o_lasts o_power o_told p1 ((2 : Int32) * p1)  _ hu1) ⟨rfl, rfl, Nat.le_of_ble_eq_true rfl, Nat.le_of_ble_eq_true rfl⟩ hP hD hS hA hK [0, 1, 2, 3, 4, 5, 6, 7, 8, 9, 10, 11, 12, 13, 14, 15] [] rfl rfl rfl rfl (by decide) (hP.sub [] rfl) Ap_nil (q0 := 0) rfl rfl rfl hl rfl rfl (Nat.le_of_ble_eq_true rfl) ⟨Nat.zero_le _, Nat.zero_le _⟩ dX6_distanceOf_9 (fun H locs hP hD hS => ?_)
  have hP : va_P D vwCl (wX6 C a0 a1 a2 a3 a4 a5 a6 a7 a8 a9 a10 a11 a12 a13 a14 a15 o_n o_all o_made o_own0 o_own1 o_threatMany o_length o_holes o_tellings o_game o_near o_kept o_isKept o_threatOf o_threatSet o_text u1 o_back o_hole o_isWon o_won o_lasts o_power o_told) H := hP.sub [0, 1, 2, 3, 4, 5, 6, 7, 8, 9, 10, 11, 12, 13, 14, 15] rfl
  have hD : va_D A (wX6 C a0 a1 a2 a3 a4 a5 a6 a7 a8 a9 a10 a11 a12 a13 a14 a15 o_n o_all o_made o_own0 o_own1 o_threatMany o_length o_holes o_tellings o_game o_near o_kept o_isKept o_threatOf o_threatSet o_text u1 o_back o_hole o_isWon o_won o_lasts o_power o_told) := hD.sub [0, 1, 2, 3, 4, 5, 6, 7, 8, 9, 10, 11, 12, 13, 14, 15] rfl rfl
  refine lv_aload_n hx hb dX6_distanceOf_12 rfl (lv_at hl 0 rfl) ?_
  refine lv_iconst (v := (2 : Int32)) hx hb dX6_distanceOf_13 (by decide) ?_
  refine lv_iload_n hx hb dX6_distanceOf_14 rfl (lv_at hl 1 rfl) ?_
  refine lv_imul hx hb dX6_distanceOf_15 ?_
  refine lv_iconst (v := (1 : Int32)) hx hb dX6_distanceOf_16 (by decide) ?_
  refine lv_iadd hx hb dX6_distanceOf_17 ?_
  obtain ⟨u2, hu2, hf⟩ := bind_some hf
  refine rcVl (As := [.int (((2 : Int32) * p1) + (1 : Int32))]) (rest := []) hc k_X6_93 (c_X6_edge l D C a0 o_n a1 o_all o_made o_own0 o_own1 a2 a3 a4 a5 a6 o_threatMany a7 o_length a8 a9 a10 o_holes a11 a12 a13 a14 a15 o_tellings (((2 : Int32) * p1) + (1 : Int32))  _ hu2) ⟨rfl, rfl, Nat.le_of_ble_eq_true rfl, Nat.le_of_ble_eq_true rfl⟩ (hP.sub [0] rfl) hK (q0 := 0) rfl rfl rfl hl rfl rfl (Nat.le_of_ble_eq_true rfl) ⟨Nat.zero_le _, Nat.zero_le _⟩ dX6_distanceOf_18 ?_
  refine lv_lstore_n (lv' := [(2, .long u2), (0, .ref a0), (1, .int p1)]) hx hb dX6_distanceOf_21 rfl hl (by decide) rfl (fun ls hl => ?_)
  refine lv_bipush (v := (100 : Int32)) hx hb dX6_distanceOf_22 (by decide) ?_
  refine lv_istore (lv' := [(4, .int (100 : Int32)), (2, .long u2), (0, .ref a0), (1, .int p1)]) hx hb dX6_distanceOf_24 hl (by decide) rfl (fun ls hl => ?_)
  refine lv_iconst (v := (0 : Int32)) hx hb dX6_distanceOf_26 (by decide) ?_
  refine lv_istore (lv' := [(5, .int (0 : Int32)), (4, .int (100 : Int32)), (2, .long u2), (0, .ref a0), (1, .int p1)]) hx hb dX6_distanceOf_27 hl (by decide) rfl (fun ls hl => ?_)
  exact w_X6_distanceOf_c29 hc hK hA hO hN  FU u2 (100 : Int32) (0 : Int32) u1 hf _ _ hP hD hS ls (lv_sub hl [3, 2, 1, 0] rfl)
abbrev R_X6_distance : Room := { frames := 5, cells := 0, slots := 0, locals := 131 }
def m_X6_distance (o_n : Int32) (o_own0 : Int64) (o_own1 : Int64) (o_near : Nat → Int64) (o_far : Nat → Int32) (p1 : Int32) : Option (Int32 × (Nat → Int32)) := (if (m_X6_isPlayer p1) = 0 then some ((-11 : Int32), o_far) else ((m_X6_distanceOf o_n o_own0 o_own1 o_near o_far p1).bind fun u2 => some (u2.1, u2.2)))
set_option maxHeartbeats 4000000 in
set_option maxRecDepth 100000 in
theorem c_X6_distance (l : Launch) (D : va_G) (C : Nat → ClassId) (sz : Nat) (a0 : Nat) (a1 : Nat) (a2 : Nat) (a3 : Nat) (a4 : Nat) (a5 : Nat) (a6 : Nat) (a7 : Nat) (a8 : Nat) (a9 : Nat) (a10 : Nat) (a11 : Nat) (a12 : Nat) (a13 : Nat) (a14 : Nat) (a15 : Nat) (o_n : Int32) (o_all : Int32) (o_made : Int32) (o_own0 : Int64) (o_own1 : Int64) (o_threatMany : Int32) (o_length : Int32) (o_holes : Int32) (o_tellings : Int32) (o_game : Nat → Int32) (o_near : Nat → Int64) (o_kept : Nat → Int32) (o_isKept : Nat → Int32) (o_threatOf : Nat → Int32) (o_threatSet : Nat → Int64) (o_text : Nat → Int32) (o_far : Nat → Int32) (o_back : Nat → Int32) (o_hole : Nat → Int32) (o_isWon : Nat → Int32) (o_won : Nat → Int32) (o_lasts : Nat → Int32) (o_power : Nat → Int32) (o_told : Nat → Int32) (p1 : Int32) (o : Int32 × (Nat → Int32)) (hf : m_X6_distance o_n o_own0 o_own1 o_near o_far p1 = some o) : Met l yX6_distance (wl yX6_distance cX6_distance 2 (some .int)) R_X6_distance (PW [.ref a0, .int p1] D C sz (wX6 C a0 a1 a2 a3 a4 a5 a6 a7 a8 a9 a10 a11 a12 a13 a14 a15 o_n o_all o_made o_own0 o_own1 o_threatMany o_length o_holes o_tellings o_game o_near o_kept o_isKept o_threatOf o_threatSet o_text o_far o_back o_hole o_isWon o_won o_lasts o_power o_told) ([] : va_W)) (QWi D o.1 (wX6 C a0 a1 a2 a3 a4 a5 a6 a7 a8 a9 a10 a11 a12 a13 a14 a15 o_n o_all o_made o_own0 o_own1 o_threatMany o_length o_holes o_tellings o_game o_near o_kept o_isKept o_threatOf o_threatSet o_text o.2 o_back o_hole o_isWon o_won o_lasts o_power o_told) (va_A (wX6 C a0 a1 a2 a3 a4 a5 a6 a7 a8 a9 a10 a11 a12 a13 a14 a15 o_n o_all o_made o_own0 o_own1 o_threatMany o_length o_holes o_tellings o_game o_near o_kept o_isKept o_threatOf o_threatSet o_text o_far o_back o_hole o_isWon o_won o_lasts o_power o_told) sz)) 0 0 (va_A (wX6 C a0 a1 a2 a3 a4 a5 a6 a7 a8 a9 a10 a11 a12 a13 a14 a15 o_n o_all o_made o_own0 o_own1 o_threatMany o_length o_holes o_tellings o_game o_near o_kept o_isKept o_threatOf o_threatSet o_text o_far o_back o_hole o_isWon o_won o_lasts o_power o_told) sz) := by
  refine Met_ofC (by decide) ?_
  intro p e s m args below meth c hc hv
  obtain ⟨rfl, hsz, hP, hK, hD0, hO, hN0⟩ := hv
  subst hsz
  have hD := hD0.self (sz := s.heap.size)
  have hN : ∀ q ∈ ([] : va_W), ¬ va_A (wX6 C a0 a1 a2 a3 a4 a5 a6 a7 a8 a9 a10 a11 a12 a13 a14 a15 o_n o_all o_made o_own0 o_own1 o_threatMany o_length o_holes o_tellings o_game o_near o_kept o_isKept o_threatOf o_threatSet o_text o_far o_back o_hole o_isWon o_won o_lasts o_power o_told) s.heap.size q.1 := hN0
  generalize hAe : va_A (wX6 C a0 a1 a2 a3 a4 a5 a6 a7 a8 a9 a10 a11 a12 a13 a14 a15 o_n o_all o_made o_own0 o_own1 o_threatMany o_length o_holes o_tellings o_game o_near o_kept o_isKept o_threatOf o_threatSet o_text o_far o_back o_hole o_isWon o_won o_lasts o_power o_told) s.heap.size = A at hD hN ⊢
  have hA : ∀ q : Nat, s.heap.size ≤ q → A q := fun q h => by rw [← hAe]; exact Or.inr h
  have hS : va_S A s.heap s.heap [] := va_S.rf
  have hx := hc.1
  have hb := hc.2.1
  have hown := hc.2.2.2.2.1
  have hts := hc.2.2.2.2.2.1
  refine en_F rfl (fun ls hl => ?_)
  have hl : lv_has ls 2 [(0, .ref a0), (1, .int p1)] := hl
  refine lv_iload_n hx hb dX6_distance_0 rfl (lv_at hl 1 rfl) ?_
  refine rcSi (As := [.int p1]) (rest := []) hc k_X6_136 (c_X6_isPlayer l D C p1  _ rfl) ⟨rfl, rfl, Nat.le_of_ble_eq_true rfl, Nat.le_of_ble_eq_true rfl⟩ (hP.sub [] rfl) hK hl rfl rfl (Nat.le_of_ble_eq_true rfl) ⟨Nat.zero_le _, Nat.zero_le _⟩ dX6_distance_1 ?_
  refine lv_if_eq (tgt := 15) hx hb dX6_distance_4 (by decide) (fun c1 => ?_) (fun c1 => ?_)
  · have hf := if_t hf c1
    refine lv_bipush (v := (-11 : Int32)) hx hb dX6_distance_15 (by decide) ?_
    have hf := Option.some.inj hf
    subst hf
    exact rWi hc rfl hP hD hS dX6_distance_17
  · have hf := if_f hf c1
    refine lv_aload_n hx hb dX6_distance_7 rfl (lv_at hl 0 rfl) ?_
    refine lv_iload_n hx hb dX6_distance_8 rfl (lv_at hl 1 rfl) ?_
    obtain ⟨u2, hu2, hf⟩ := bind_some hf
    refine wcVi (A := A) (wc := wX6 C a0 a1 a2 a3 a4 a5 a6 a7 a8 a9 a10 a11 a12 a13 a14 a15 o_n o_all o_made o_own0 o_own1 o_threatMany o_length o_holes o_tellings o_game o_near o_kept o_isKept o_threatOf o_threatSet o_text o_far o_back o_hole o_isWon o_won o_lasts o_power o_told) (w1 := wX6 C a0 a1 a2 a3 a4 a5 a6 a7 a8 a9 a10 a11 a12 a13 a14 a15 o_n o_all o_made o_own0 o_own1 o_threatMany o_length o_holes o_tellings o_game o_near o_kept o_isKept o_threatOf o_threatSet o_text u2.2 o_back o_hole o_isWon o_won o_lasts o_power o_told) (rc := []) (As := [.int p1]) (rest := []) hc k_X6_155 (c_X6_distanceOf l D C _ a0 a1 a2 a3 a4 a5 a6 a7 a8 a9 a10 a11 a12 a13 a14 a15 o_n o_all o_made o_own0 o_own1 o_threatMany o_length o_holes o_tellings o_game o_near o_kept o_isKept o_threatOf o_threatSet o_text o_far o_back o_hole o_isWon o_won o_lasts o_power o_told p1  _ hu2) ⟨rfl, rfl, Nat.le_of_ble_eq_true rfl, Nat.le_of_ble_eq_true rfl⟩ hP hD hS hA hK [0, 1, 2, 3, 4, 5, 6, 7, 8, 9, 10, 11, 12, 13, 14, 15] [] rfl rfl rfl rfl (by decide) (hP.sub [] rfl) Ap_nil (q0 := 0) rfl rfl rfl hl rfl rfl (Nat.le_of_ble_eq_true rfl) ⟨Nat.zero_le _, Nat.zero_le _⟩ dX6_distance_9 (fun H locs hP hD hS => ?_)
    have hP : va_P D vwCl (wX6 C a0 a1 a2 a3 a4 a5 a6 a7 a8 a9 a10 a11 a12 a13 a14 a15 o_n o_all o_made o_own0 o_own1 o_threatMany o_length o_holes o_tellings o_game o_near o_kept o_isKept o_threatOf o_threatSet o_text u2.2 o_back o_hole o_isWon o_won o_lasts o_power o_told) H := hP.sub [0, 1, 2, 3, 4, 5, 6, 7, 8, 9, 10, 11, 12, 13, 14, 15] rfl
    have hD : va_D A (wX6 C a0 a1 a2 a3 a4 a5 a6 a7 a8 a9 a10 a11 a12 a13 a14 a15 o_n o_all o_made o_own0 o_own1 o_threatMany o_length o_holes o_tellings o_game o_near o_kept o_isKept o_threatOf o_threatSet o_text u2.2 o_back o_hole o_isWon o_won o_lasts o_power o_told) := hD.sub [0, 1, 2, 3, 4, 5, 6, 7, 8, 9, 10, 11, 12, 13, 14, 15] rfl rfl
    refine lv_goto (tgt := 17) hx hb dX6_distance_12 (by decide) ?_
    have hf := Option.some.inj hf
    subst hf
    exact rWi hc rfl hP hD hS dX6_distance_17
abbrev R_X6_shortestOf : Room := { frames := 5, cells := 0, slots := 0, locals := 131 }
def m_X6_shortestOf_c91  (k35 : Int32 → Int64 → Int32 → (Nat → Int32) → (Nat → Int32) → Option (Int64 × (Nat → Int32) × (Nat → Int32))) (v2 : Int32) (v5 : Int32) (t0 : Int64) (t1 : Int64) (o_far : Nat → Int32) (o_back : Nat → Int32) : Option (Int64 × (Nat → Int32) × (Nat → Int32)) := (k35 v2 (t1 ||| t0) (v5 + (1 : Int32)) o_far o_back)
set_option maxHeartbeats 4000000 in
set_option maxRecDepth 100000 in
theorem w_X6_shortestOf_c91 {p : Program} {l : Launch} {e : Env} {s : State} {m : MethodId} {args : Array Value} {below : List Frame} {meth : Method} {c : Code} {D : va_G} {C : Nat → ClassId} {A : Nat → Prop} {a0 : Nat} {a1 : Nat} {a2 : Nat} {a3 : Nat} {a4 : Nat} {a5 : Nat} {a6 : Nat} {a7 : Nat} {a8 : Nat} {a9 : Nat} {a10 : Nat} {a11 : Nat} {a12 : Nat} {a13 : Nat} {a14 : Nat} {a15 : Nat} {o_n : Int32} {o_all : Int32} {o_made : Int32} {o_own0 : Int64} {o_own1 : Int64} {o_threatMany : Int32} {o_length : Int32} {o_holes : Int32} {o_tellings : Int32} {o_game : Nat → Int32} {o_near : Nat → Int64} {o_kept : Nat → Int32} {o_isKept : Nat → Int32} {o_threatOf : Nat → Int32} {o_threatSet : Nat → Int64} {o_text : Nat → Int32} {o_hole : Nat → Int32} {o_isWon : Nat → Int32} {o_won : Nat → Int32} {o_lasts : Nat → Int32} {o_power : Nat → Int32} {o_told : Nat → Int32} {o : Int64 × (Nat → Int32) × (Nat → Int32)} (hc : Cx p s m args meth c yX6_shortestOf cX6_shortestOf 6 (some .long)) (hK : va_K D vwCl (TY C) s) (hA : ∀ q : Nat, s.heap.size ≤ q → A q) (hO : va_P D vwCl ([] : va_W) s.heap) (hN : ∀ q ∈ ([] : va_W), ¬ A q.1) (k35 : Int32 → Int64 → Int32 → (Nat → Int32) → (Nat → Int32) → Option (Int64 × (Nat → Int32) × (Nat → Int32))) (hk35 : ∀ (v2 : Int32) (v3 : Int64) (v5 : Int32) (o_far : Nat → Int32) (o_back : Nat → Int32), k35 v2 v3 v5 o_far o_back = some o → ∀ (H : Heap) (locs : List Loc), va_P D vwCl (wX6 C a0 a1 a2 a3 a4 a5 a6 a7 a8 a9 a10 a11 a12 a13 a14 a15 o_n o_all o_made o_own0 o_own1 o_threatMany o_length o_holes o_tellings o_game o_near o_kept o_isKept o_threatOf o_threatSet o_text o_far o_back o_hole o_isWon o_won o_lasts o_power o_told) H → va_D A (wX6 C a0 a1 a2 a3 a4 a5 a6 a7 a8 a9 a10 a11 a12 a13 a14 a15 o_n o_all o_made o_own0 o_own1 o_threatMany o_length o_holes o_tellings o_game o_near o_kept o_isKept o_threatOf o_threatSet o_text o_far o_back o_hole o_isWon o_won o_lasts o_power o_told) → va_S A s.heap H locs → ∀ (ls : Array Slot), lv_has ls 6 [(0, .ref a0), (2, .int v2), (3, .long v3), (5, .int v5)] → W p l e R_X6_shortestOf s m args below meth c H locs 0 0 (MQ below (QWl D o.1 (wX6 C a0 a1 a2 a3 a4 a5 a6 a7 a8 a9 a10 a11 a12 a13 a14 a15 o_n o_all o_made o_own0 o_own1 o_threatMany o_length o_holes o_tellings o_game o_near o_kept o_isKept o_threatOf o_threatSet o_text o.2.1 o.2.2 o_hole o_isWon o_won o_lasts o_power o_told) A) args s 0 0 A) (F0 m 35 ls [])) : ∀ (v2 : Int32) (v5 : Int32) (t0 : Int64) (t1 : Int64) (o_far : Nat → Int32) (o_back : Nat → Int32), m_X6_shortestOf_c91  k35 v2 v5 t0 t1 o_far o_back = some o → ∀ (H : Heap) (locs : List Loc), va_P D vwCl (wX6 C a0 a1 a2 a3 a4 a5 a6 a7 a8 a9 a10 a11 a12 a13 a14 a15 o_n o_all o_made o_own0 o_own1 o_threatMany o_length o_holes o_tellings o_game o_near o_kept o_isKept o_threatOf o_threatSet o_text o_far o_back o_hole o_isWon o_won o_lasts o_power o_told) H → va_D A (wX6 C a0 a1 a2 a3 a4 a5 a6 a7 a8 a9 a10 a11 a12 a13 a14 a15 o_n o_all o_made o_own0 o_own1 o_threatMany o_length o_holes o_tellings o_game o_near o_kept o_isKept o_threatOf o_threatSet o_text o_far o_back o_hole o_isWon o_won o_lasts o_power o_told) → va_S A s.heap H locs → ∀ (ls : Array Slot), lv_has ls 6 [(0, .ref a0), (2, .int v2), (5, .int v5)] → W p l e R_X6_shortestOf s m args below meth c H locs 0 0 (MQ below (QWl D o.1 (wX6 C a0 a1 a2 a3 a4 a5 a6 a7 a8 a9 a10 a11 a12 a13 a14 a15 o_n o_all o_made o_own0 o_own1 o_threatMany o_length o_holes o_tellings o_game o_near o_kept o_isKept o_threatOf o_threatSet o_text o.2.1 o.2.2 o_hole o_isWon o_won o_lasts o_power o_told) A) args s 0 0 A) (F0 m 91 ls [.long t0, .long t1]) := by
  have hx := hc.1
  have hb := hc.2.1
  have hown := hc.2.2.2.2.1
  have hts := hc.2.2.2.2.2.1
  intro v2 v5 t0 t1 o_far o_back hf H locs hP hD hS ls hl
  refine lv_lor hx hb dX6_shortestOf_91 ?_
  refine lv_lstore_n (lv' := [(3, .long (t1 ||| t0)), (0, .ref a0), (2, .int v2), (5, .int v5)]) hx hb dX6_shortestOf_92 rfl hl (by decide) rfl (fun ls hl => ?_)
  refine lv_iinc (v := (v5 + (1 : Int32))) (lv' := [(5, .int (v5 + (1 : Int32))), (3, .long (t1 ||| t0)), (0, .ref a0), (2, .int v2)]) hx hb dX6_shortestOf_93 hl (k := 3) rfl rfl (by decide) rfl (fun ls hl => ?_)
  refine lv_goto (tgt := 35) hx hb dX6_shortestOf_96 (by decide) ?_
  exact hk35 v2 (t1 ||| t0) (v5 + (1 : Int32)) o_far o_back hf _ _ hP hD hS ls (lv_sub hl [2, 3, 1, 0] rfl)
def m_X6_shortestOf_c90  (k35 : Int32 → Int64 → Int32 → (Nat → Int32) → (Nat → Int32) → Option (Int64 × (Nat → Int32) × (Nat → Int32))) (v2 : Int32) (v5 : Int32) (t0 : Int64) (o_far : Nat → Int32) (o_back : Nat → Int32) : Option (Int64 × (Nat → Int32) × (Nat → Int32)) := (m_X6_shortestOf_c91 k35 v2 v5 (0 : Int64) t0 o_far o_back)
set_option maxHeartbeats 4000000 in
set_option maxRecDepth 100000 in
theorem w_X6_shortestOf_c90 {p : Program} {l : Launch} {e : Env} {s : State} {m : MethodId} {args : Array Value} {below : List Frame} {meth : Method} {c : Code} {D : va_G} {C : Nat → ClassId} {A : Nat → Prop} {a0 : Nat} {a1 : Nat} {a2 : Nat} {a3 : Nat} {a4 : Nat} {a5 : Nat} {a6 : Nat} {a7 : Nat} {a8 : Nat} {a9 : Nat} {a10 : Nat} {a11 : Nat} {a12 : Nat} {a13 : Nat} {a14 : Nat} {a15 : Nat} {o_n : Int32} {o_all : Int32} {o_made : Int32} {o_own0 : Int64} {o_own1 : Int64} {o_threatMany : Int32} {o_length : Int32} {o_holes : Int32} {o_tellings : Int32} {o_game : Nat → Int32} {o_near : Nat → Int64} {o_kept : Nat → Int32} {o_isKept : Nat → Int32} {o_threatOf : Nat → Int32} {o_threatSet : Nat → Int64} {o_text : Nat → Int32} {o_hole : Nat → Int32} {o_isWon : Nat → Int32} {o_won : Nat → Int32} {o_lasts : Nat → Int32} {o_power : Nat → Int32} {o_told : Nat → Int32} {o : Int64 × (Nat → Int32) × (Nat → Int32)} (hc : Cx p s m args meth c yX6_shortestOf cX6_shortestOf 6 (some .long)) (hK : va_K D vwCl (TY C) s) (hA : ∀ q : Nat, s.heap.size ≤ q → A q) (hO : va_P D vwCl ([] : va_W) s.heap) (hN : ∀ q ∈ ([] : va_W), ¬ A q.1) (k35 : Int32 → Int64 → Int32 → (Nat → Int32) → (Nat → Int32) → Option (Int64 × (Nat → Int32) × (Nat → Int32))) (hk35 : ∀ (v2 : Int32) (v3 : Int64) (v5 : Int32) (o_far : Nat → Int32) (o_back : Nat → Int32), k35 v2 v3 v5 o_far o_back = some o → ∀ (H : Heap) (locs : List Loc), va_P D vwCl (wX6 C a0 a1 a2 a3 a4 a5 a6 a7 a8 a9 a10 a11 a12 a13 a14 a15 o_n o_all o_made o_own0 o_own1 o_threatMany o_length o_holes o_tellings o_game o_near o_kept o_isKept o_threatOf o_threatSet o_text o_far o_back o_hole o_isWon o_won o_lasts o_power o_told) H → va_D A (wX6 C a0 a1 a2 a3 a4 a5 a6 a7 a8 a9 a10 a11 a12 a13 a14 a15 o_n o_all o_made o_own0 o_own1 o_threatMany o_length o_holes o_tellings o_game o_near o_kept o_isKept o_threatOf o_threatSet o_text o_far o_back o_hole o_isWon o_won o_lasts o_power o_told) → va_S A s.heap H locs → ∀ (ls : Array Slot), lv_has ls 6 [(0, .ref a0), (2, .int v2), (3, .long v3), (5, .int v5)] → W p l e R_X6_shortestOf s m args below meth c H locs 0 0 (MQ below (QWl D o.1 (wX6 C a0 a1 a2 a3 a4 a5 a6 a7 a8 a9 a10 a11 a12 a13 a14 a15 o_n o_all o_made o_own0 o_own1 o_threatMany o_length o_holes o_tellings o_game o_near o_kept o_isKept o_threatOf o_threatSet o_text o.2.1 o.2.2 o_hole o_isWon o_won o_lasts o_power o_told) A) args s 0 0 A) (F0 m 35 ls [])) : ∀ (v2 : Int32) (v5 : Int32) (t0 : Int64) (o_far : Nat → Int32) (o_back : Nat → Int32), m_X6_shortestOf_c90  k35 v2 v5 t0 o_far o_back = some o → ∀ (H : Heap) (locs : List Loc), va_P D vwCl (wX6 C a0 a1 a2 a3 a4 a5 a6 a7 a8 a9 a10 a11 a12 a13 a14 a15 o_n o_all o_made o_own0 o_own1 o_threatMany o_length o_holes o_tellings o_game o_near o_kept o_isKept o_threatOf o_threatSet o_text o_far o_back o_hole o_isWon o_won o_lasts o_power o_told) H → va_D A (wX6 C a0 a1 a2 a3 a4 a5 a6 a7 a8 a9 a10 a11 a12 a13 a14 a15 o_n o_all o_made o_own0 o_own1 o_threatMany o_length o_holes o_tellings o_game o_near o_kept o_isKept o_threatOf o_threatSet o_text o_far o_back o_hole o_isWon o_won o_lasts o_power o_told) → va_S A s.heap H locs → ∀ (ls : Array Slot), lv_has ls 6 [(0, .ref a0), (2, .int v2), (5, .int v5)] → W p l e R_X6_shortestOf s m args below meth c H locs 0 0 (MQ below (QWl D o.1 (wX6 C a0 a1 a2 a3 a4 a5 a6 a7 a8 a9 a10 a11 a12 a13 a14 a15 o_n o_all o_made o_own0 o_own1 o_threatMany o_length o_holes o_tellings o_game o_near o_kept o_isKept o_threatOf o_threatSet o_text o.2.1 o.2.2 o_hole o_isWon o_won o_lasts o_power o_told) A) args s 0 0 A) (F0 m 90 ls [.long t0]) := by
  have hx := hc.1
  have hb := hc.2.1
  have hown := hc.2.2.2.2.1
  have hts := hc.2.2.2.2.2.1
  intro v2 v5 t0 o_far o_back hf H locs hP hD hS ls hl
  refine lv_lconst (v := (0 : Int64)) hx hb dX6_shortestOf_90 (by decide) ?_
  exact w_X6_shortestOf_c91 hc hK hA hO hN k35 hk35 v2 v5 (0 : Int64) t0 o_far o_back hf _ _ hP hD hS ls (lv_sub hl [0, 1, 2] rfl)
def m_X6_shortestOf_c35 (o_n : Int32) (o_own0 : Int64) (o_own1 : Int64)  : Nat → Int32 → Int64 → Int32 → (Nat → Int32) → (Nat → Int32) → Option (Int64 × (Nat → Int32) × (Nat → Int32))
  | 0, _, _, _, _, _ => none
  | n + 1, v2, v3, v5, o_far, o_back => (if (o_n * o_n) ≤ v5 then some (v3, o_far, o_back) else (if (m_X6_has (m_X6_free o_n o_own0 o_own1) v5) = 0 then (m_X6_shortestOf_c90 (m_X6_shortestOf_c35 o_n o_own0 o_own1  n) v2 v5 v3 o_far o_back) else (if okI v5 49 = true then (if okI v5 49 = true then (if ((o_far v5.toNatClampNeg) + (o_back v5.toNatClampNeg)) = (v2 + (1 : Int32)) then (m_X6_shortestOf_c91 (m_X6_shortestOf_c35 o_n o_own0 o_own1  n) v2 v5 (jshl (1 : Int64) v5) v3 o_far o_back) else (m_X6_shortestOf_c90 (m_X6_shortestOf_c35 o_n o_own0 o_own1  n) v2 v5 v3 o_far o_back)) else none) else none)))
set_option maxHeartbeats 4000000 in
set_option maxRecDepth 100000 in
theorem w_X6_shortestOf_c35 {p : Program} {l : Launch} {e : Env} {s : State} {m : MethodId} {args : Array Value} {below : List Frame} {meth : Method} {c : Code} {D : va_G} {C : Nat → ClassId} {A : Nat → Prop} {a0 : Nat} {a1 : Nat} {a2 : Nat} {a3 : Nat} {a4 : Nat} {a5 : Nat} {a6 : Nat} {a7 : Nat} {a8 : Nat} {a9 : Nat} {a10 : Nat} {a11 : Nat} {a12 : Nat} {a13 : Nat} {a14 : Nat} {a15 : Nat} {o_n : Int32} {o_all : Int32} {o_made : Int32} {o_own0 : Int64} {o_own1 : Int64} {o_threatMany : Int32} {o_length : Int32} {o_holes : Int32} {o_tellings : Int32} {o_game : Nat → Int32} {o_near : Nat → Int64} {o_kept : Nat → Int32} {o_isKept : Nat → Int32} {o_threatOf : Nat → Int32} {o_threatSet : Nat → Int64} {o_text : Nat → Int32} {o_hole : Nat → Int32} {o_isWon : Nat → Int32} {o_won : Nat → Int32} {o_lasts : Nat → Int32} {o_power : Nat → Int32} {o_told : Nat → Int32} {o : Int64 × (Nat → Int32) × (Nat → Int32)} (hc : Cx p s m args meth c yX6_shortestOf cX6_shortestOf 6 (some .long)) (hK : va_K D vwCl (TY C) s) (hA : ∀ q : Nat, s.heap.size ≤ q → A q) (hO : va_P D vwCl ([] : va_W) s.heap) (hN : ∀ q ∈ ([] : va_W), ¬ A q.1) : ∀ (n : Nat), ∀ (v2 : Int32) (v3 : Int64) (v5 : Int32) (o_far : Nat → Int32) (o_back : Nat → Int32), m_X6_shortestOf_c35 o_n o_own0 o_own1  n v2 v3 v5 o_far o_back = some o → ∀ (H : Heap) (locs : List Loc), va_P D vwCl (wX6 C a0 a1 a2 a3 a4 a5 a6 a7 a8 a9 a10 a11 a12 a13 a14 a15 o_n o_all o_made o_own0 o_own1 o_threatMany o_length o_holes o_tellings o_game o_near o_kept o_isKept o_threatOf o_threatSet o_text o_far o_back o_hole o_isWon o_won o_lasts o_power o_told) H → va_D A (wX6 C a0 a1 a2 a3 a4 a5 a6 a7 a8 a9 a10 a11 a12 a13 a14 a15 o_n o_all o_made o_own0 o_own1 o_threatMany o_length o_holes o_tellings o_game o_near o_kept o_isKept o_threatOf o_threatSet o_text o_far o_back o_hole o_isWon o_won o_lasts o_power o_told) → va_S A s.heap H locs → ∀ (ls : Array Slot), lv_has ls 6 [(0, .ref a0), (2, .int v2), (3, .long v3), (5, .int v5)] → W p l e R_X6_shortestOf s m args below meth c H locs 0 0 (MQ below (QWl D o.1 (wX6 C a0 a1 a2 a3 a4 a5 a6 a7 a8 a9 a10 a11 a12 a13 a14 a15 o_n o_all o_made o_own0 o_own1 o_threatMany o_length o_holes o_tellings o_game o_near o_kept o_isKept o_threatOf o_threatSet o_text o.2.1 o.2.2 o_hole o_isWon o_won o_lasts o_power o_told) A) args s 0 0 A) (F0 m 35 ls []) := by
  have hx := hc.1
  have hb := hc.2.1
  have hown := hc.2.2.2.2.1
  have hts := hc.2.2.2.2.2.1
  intro n
  induction n with
  | zero =>
    intro v2 v3 v5 o_far o_back hf
    exact no_some hf
  | succ n ih =>
    intro v2 v3 v5 o_far o_back hf H locs hP hD hS ls hl
    refine lv_iload hx hb dX6_shortestOf_35 (lv_at hl 3 rfl) ?_
    refine lv_aload_n hx hb dX6_shortestOf_37 rfl (lv_at hl 0 rfl) ?_
    refine va_get (D := D) (ci := 6) (v := .int o_n) (C := RX6) (T := TX6) (N := 24) hx hb hts inX6 hown hK hP 0 rfl rfl 0 (by decide) (hts _ q_654) (fun _ h9 => h9) rfl dX6_shortestOf_38 ?_
    refine lv_aload_n hx hb dX6_shortestOf_41 rfl (lv_at hl 0 rfl) ?_
    refine va_get (D := D) (ci := 6) (v := .int o_n) (C := RX6) (T := TX6) (N := 24) hx hb hts inX6 hown hK hP 0 rfl rfl 0 (by decide) (hts _ q_654) (fun _ h9 => h9) rfl dX6_shortestOf_42 ?_
    refine lv_imul hx hb dX6_shortestOf_45 ?_
    refine lv_icmp_ge (tgt := 99) hx hb dX6_shortestOf_46 (by decide) (fun c4 => ?_) (fun c4 => ?_)
    · have hf := if_t hf c4
      refine lv_lload_n hx hb dX6_shortestOf_99 rfl (lv_at hl 2 rfl) ?_
      have hf := Option.some.inj hf
      subst hf
      exact rWl hc rfl hP hD hS dX6_shortestOf_100
    · have hf := if_f hf c4
      refine lv_lload_n hx hb dX6_shortestOf_49 rfl (lv_at hl 2 rfl) ?_
      refine lv_aload_n hx hb dX6_shortestOf_50 rfl (lv_at hl 0 rfl) ?_
      refine rcVl (As := []) (rest := [.long v3]) hc k_X6_126 (c_X6_free l D C a0 o_n a1 o_all o_made o_own0 o_own1 a2 a3 a4 a5 a6 o_threatMany a7 o_length a8 a9 a10 o_holes a11 a12 a13 a14 a15 o_tellings  _ rfl) ⟨rfl, rfl, Nat.le_of_ble_eq_true rfl, Nat.le_of_ble_eq_true rfl⟩ (hP.sub [0] rfl) hK (q0 := 0) rfl rfl rfl hl rfl rfl (Nat.le_of_ble_eq_true rfl) ⟨Nat.zero_le _, Nat.zero_le _⟩ dX6_shortestOf_51 ?_
      refine lv_iload hx hb dX6_shortestOf_54 (lv_at hl 3 rfl) ?_
      refine rcSi (As := [.long (m_X6_free o_n o_own0 o_own1), .int v5]) (rest := [.long v3]) hc k_X6_85 (c_X6_has l D C (m_X6_free o_n o_own0 o_own1) v5  _ rfl) ⟨rfl, rfl, Nat.le_of_ble_eq_true rfl, Nat.le_of_ble_eq_true rfl⟩ (hP.sub [] rfl) hK hl rfl rfl (Nat.le_of_ble_eq_true rfl) ⟨Nat.zero_le _, Nat.zero_le _⟩ dX6_shortestOf_56 ?_
      refine lv_if_eq (tgt := 90) hx hb dX6_shortestOf_59 (by decide) (fun c5 => ?_) (fun c5 => ?_)
      · have hf := if_t hf c5
        exact w_X6_shortestOf_c90 hc hK hA hO hN (m_X6_shortestOf_c35 o_n o_own0 o_own1  n) ih v2 v5 v3 o_far o_back hf _ _ hP hD hS ls (lv_sub hl [0, 1, 3] rfl)
      · have hf := if_f hf c5
        refine lv_aload_n hx hb dX6_shortestOf_62 rfl (lv_at hl 0 rfl) ?_
        refine va_get (D := D) (ci := 6) (v := .ref a8) (C := RX6) (T := TX6) (N := 24) hx hb hts inX6 hown hK hP 0 rfl rfl 14 (by decide) (hts _ q_668) (fun _ h9 => h9) rfl dX6_shortestOf_63 ?_
        refine lv_iload hx hb dX6_shortestOf_66 (lv_at hl 3 rfl) ?_
        obtain ⟨h6, hf⟩ := ok_t hf
        refine va_iald hx hb hK hP 8 0 rfl rfl (okI_in h6) dX6_shortestOf_68 ?_
        refine lv_aload_n hx hb dX6_shortestOf_69 rfl (lv_at hl 0 rfl) ?_
        refine va_get (D := D) (ci := 6) (v := .ref a9) (C := RX6) (T := TX6) (N := 24) hx hb hts inX6 hown hK hP 0 rfl rfl 15 (by decide) (hts _ q_669) (fun _ h9 => h9) rfl dX6_shortestOf_70 ?_
        refine lv_iload hx hb dX6_shortestOf_73 (lv_at hl 3 rfl) ?_
        obtain ⟨h7, hf⟩ := ok_t hf
        refine va_iald hx hb hK hP 9 0 rfl rfl (okI_in h7) dX6_shortestOf_75 ?_
        refine lv_iadd hx hb dX6_shortestOf_76 ?_
        refine lv_iload_n hx hb dX6_shortestOf_77 rfl (lv_at hl 1 rfl) ?_
        refine lv_iconst (v := (1 : Int32)) hx hb dX6_shortestOf_78 (by decide) ?_
        refine lv_iadd hx hb dX6_shortestOf_79 ?_
        refine lv_icmp_ne (tgt := 90) hx hb dX6_shortestOf_80 (by decide) (fun c8 => ?_) (fun c8 => ?_)
        · have hf := if_f hf c8
          exact w_X6_shortestOf_c90 hc hK hA hO hN (m_X6_shortestOf_c35 o_n o_own0 o_own1  n) ih v2 v5 v3 o_far o_back hf _ _ hP hD hS ls (lv_sub hl [0, 1, 3] rfl)
        · have hf := if_t hf c8
          refine lv_lconst (v := (1 : Int64)) hx hb dX6_shortestOf_83 (by decide) ?_
          refine lv_iload hx hb dX6_shortestOf_84 (lv_at hl 3 rfl) ?_
          refine lv_lshl (v := (jshl (1 : Int64) v5)) hx hb dX6_shortestOf_86 rfl ?_
          refine lv_goto (tgt := 91) hx hb dX6_shortestOf_87 (by decide) ?_
          exact w_X6_shortestOf_c91 hc hK hA hO hN (m_X6_shortestOf_c35 o_n o_own0 o_own1  n) ih v2 v5 (jshl (1 : Int64) v5) v3 o_far o_back hf _ _ hP hD hS ls (lv_sub hl [0, 1, 3] rfl)
def m_X6_shortestOf (o_n : Int32) (o_own0 : Int64) (o_own1 : Int64) (o_near : Nat → Int64) (o_far : Nat → Int32) (o_back : Nat → Int32) (p1 : Int32) : Option (Int64 × (Nat → Int32) × (Nat → Int32)) := ((m_X6_distanceOf o_n o_own0 o_own1 o_near o_far p1).bind fun u1 => (if u1.1 = (-15 : Int32) then some ((-15 : Int64), u1.2, o_back) else ((m_X6_levels_back o_n o_own0 o_own1 o_near o_back p1 (((2 : Int32) * p1) + (1 : Int32))).bind fun u3 => (m_X6_shortestOf_c35 o_n o_own0 o_own1 FU u1.1 (0 : Int64) (0 : Int32) u1.2 u3))))
set_option maxHeartbeats 4000000 in
set_option maxRecDepth 100000 in
theorem c_X6_shortestOf (l : Launch) (D : va_G) (C : Nat → ClassId) (sz : Nat) (a0 : Nat) (a1 : Nat) (a2 : Nat) (a3 : Nat) (a4 : Nat) (a5 : Nat) (a6 : Nat) (a7 : Nat) (a8 : Nat) (a9 : Nat) (a10 : Nat) (a11 : Nat) (a12 : Nat) (a13 : Nat) (a14 : Nat) (a15 : Nat) (o_n : Int32) (o_all : Int32) (o_made : Int32) (o_own0 : Int64) (o_own1 : Int64) (o_threatMany : Int32) (o_length : Int32) (o_holes : Int32) (o_tellings : Int32) (o_game : Nat → Int32) (o_near : Nat → Int64) (o_kept : Nat → Int32) (o_isKept : Nat → Int32) (o_threatOf : Nat → Int32) (o_threatSet : Nat → Int64) (o_text : Nat → Int32) (o_far : Nat → Int32) (o_back : Nat → Int32) (o_hole : Nat → Int32) (o_isWon : Nat → Int32) (o_won : Nat → Int32) (o_lasts : Nat → Int32) (o_power : Nat → Int32) (o_told : Nat → Int32) (p1 : Int32) (o : Int64 × (Nat → Int32) × (Nat → Int32)) (hf : m_X6_shortestOf o_n o_own0 o_own1 o_near o_far o_back p1 = some o) : Met l yX6_shortestOf (wl yX6_shortestOf cX6_shortestOf 6 (some .long)) R_X6_shortestOf (PW [.ref a0, .int p1] D C sz (wX6 C a0 a1 a2 a3 a4 a5 a6 a7 a8 a9 a10 a11 a12 a13 a14 a15 o_n o_all o_made o_own0 o_own1 o_threatMany o_length o_holes o_tellings o_game o_near o_kept o_isKept o_threatOf o_threatSet o_text o_far o_back o_hole o_isWon o_won o_lasts o_power o_told) ([] : va_W)) (QWl D o.1 (wX6 C a0 a1 a2 a3 a4 a5 a6 a7 a8 a9 a10 a11 a12 a13 a14 a15 o_n o_all o_made o_own0 o_own1 o_threatMany o_length o_holes o_tellings o_game o_near o_kept o_isKept o_threatOf o_threatSet o_text o.2.1 o.2.2 o_hole o_isWon o_won o_lasts o_power o_told) (va_A (wX6 C a0 a1 a2 a3 a4 a5 a6 a7 a8 a9 a10 a11 a12 a13 a14 a15 o_n o_all o_made o_own0 o_own1 o_threatMany o_length o_holes o_tellings o_game o_near o_kept o_isKept o_threatOf o_threatSet o_text o_far o_back o_hole o_isWon o_won o_lasts o_power o_told) sz)) 0 0 (va_A (wX6 C a0 a1 a2 a3 a4 a5 a6 a7 a8 a9 a10 a11 a12 a13 a14 a15 o_n o_all o_made o_own0 o_own1 o_threatMany o_length o_holes o_tellings o_game o_near o_kept o_isKept o_threatOf o_threatSet o_text o_far o_back o_hole o_isWon o_won o_lasts o_power o_told) sz) := by
  refine Met_ofC (by decide) ?_
  intro p e s m args below meth c hc hv
  obtain ⟨rfl, hsz, hP, hK, hD0, hO, hN0⟩ := hv
  subst hsz
  have hD := hD0.self (sz := s.heap.size)
  have hN : ∀ q ∈ ([] : va_W), ¬ va_A (wX6 C a0 a1 a2 a3 a4 a5 a6 a7 a8 a9 a10 a11 a12 a13 a14 a15 o_n o_all o_made o_own0 o_own1 o_threatMany o_length o_holes o_tellings o_game o_near o_kept o_isKept o_threatOf o_threatSet o_text o_far o_back o_hole o_isWon o_won o_lasts o_power o_told) s.heap.size q.1 := hN0
  generalize hAe : va_A (wX6 C a0 a1 a2 a3 a4 a5 a6 a7 a8 a9 a10 a11 a12 a13 a14 a15 o_n o_all o_made o_own0 o_own1 o_threatMany o_length o_holes o_tellings o_game o_near o_kept o_isKept o_threatOf o_threatSet o_text o_far o_back o_hole o_isWon o_won o_lasts o_power o_told) s.heap.size = A at hD hN ⊢
  have hA : ∀ q : Nat, s.heap.size ≤ q → A q := fun q h => by rw [← hAe]; exact Or.inr h
  have hS : va_S A s.heap s.heap [] := va_S.rf
  have hx := hc.1
  have hb := hc.2.1
  have hown := hc.2.2.2.2.1
  have hts := hc.2.2.2.2.2.1
  refine en_F rfl (fun ls hl => ?_)
  have hl : lv_has ls 6 [(0, .ref a0), (1, .int p1)] := hl
  refine lv_aload_n hx hb dX6_shortestOf_0 rfl (lv_at hl 0 rfl) ?_
  refine lv_iload_n hx hb dX6_shortestOf_1 rfl (lv_at hl 1 rfl) ?_
  obtain ⟨u1, hu1, hf⟩ := bind_some hf
  refine wcVi (A := A) (wc := wX6 C a0 a1 a2 a3 a4 a5 a6 a7 a8 a9 a10 a11 a12 a13 a14 a15 o_n o_all o_made o_own0 o_own1 o_threatMany o_length o_holes o_tellings o_game o_near o_kept o_isKept o_threatOf o_threatSet o_text o_far o_back o_hole o_isWon o_won o_lasts o_power o_told) (w1 := wX6 C a0 a1 a2 a3 a4 a5 a6 a7 a8 a9 a10 a11 a12 a13 a14 a15 o_n o_all o_made o_own0 o_own1 o_threatMany o_length o_holes o_tellings o_game o_near o_kept o_isKept o_threatOf o_threatSet o_text u1.2 o_back o_hole o_isWon o_won o_lasts o_power o_told) (rc := []) (As := [.int p1]) (rest := []) hc k_X6_155 (c_X6_distanceOf l D C _ a0 a1 a2 a3 a4 a5 a6 a7 a8 a9 a10 a11 a12 a13 a14 a15 o_n o_all o_made o_own0 o_own1 o_threatMany o_length o_holes o_tellings o_game o_near o_kept o_isKept o_threatOf o_threatSet o_text o_far o_back o_hole o_isWon o_won o_lasts o_power o_told p1  _ hu1) ⟨rfl, rfl, Nat.le_of_ble_eq_true rfl, Nat.le_of_ble_eq_true rfl⟩ hP hD hS hA hK [0, 1, 2, 3, 4, 5, 6, 7, 8, 9, 10, 11, 12, 13, 14, 15] [] rfl rfl rfl rfl (by decide) (hP.sub [] rfl) Ap_nil (q0 := 0) rfl rfl rfl hl rfl rfl (Nat.le_of_ble_eq_true rfl) ⟨Nat.zero_le _, Nat.zero_le _⟩ dX6_shortestOf_2 (fun H locs hP hD hS => ?_)
  have hP : va_P D vwCl (wX6 C a0 a1 a2 a3 a4 a5 a6 a7 a8 a9 a10 a11 a12 a13 a14 a15 o_n o_all o_made o_own0 o_own1 o_threatMany o_length o_holes o_tellings o_game o_near o_kept o_isKept o_threatOf o_threatSet o_text u1.2 o_back o_hole o_isWon o_won o_lasts o_power o_told) H := hP.sub [0, 1, 2, 3, 4, 5, 6, 7, 8, 9, 10, 11, 12, 13, 14, 15] rfl
  have hD : va_D A (wX6 C a0 a1 a2 a3 a4 a5 a6 a7 a8 a9 a10 a11 a12 a13 a14 a15 o_n o_all o_made o_own0 o_own1 o_threatMany o_length o_holes o_tellings o_game o_near o_kept o_isKept o_threatOf o_threatSet o_text u1.2 o_back o_hole o_isWon o_won o_lasts o_power o_told) := hD.sub [0, 1, 2, 3, 4, 5, 6, 7, 8, 9, 10, 11, 12, 13, 14, 15] rfl rfl
  refine lv_istore_n (lv' := [(2, .int u1.1), (0, .ref a0), (1, .int p1)]) hx hb dX6_shortestOf_5 rfl hl (by decide) rfl (fun ls hl => ?_)
  refine lv_iload_n hx hb dX6_shortestOf_6 rfl (lv_at hl 0 rfl) ?_
  refine lv_bipush (v := (-15 : Int32)) hx hb dX6_shortestOf_7 (by decide) ?_
  refine lv_icmp_ne (tgt := 16) hx hb dX6_shortestOf_9 (by decide) (fun c2 => ?_) (fun c2 => ?_)
  · have hf := if_f hf c2
    refine lv_aload_n hx hb dX6_shortestOf_16 rfl (lv_at hl 1 rfl) ?_
    refine lv_iload_n hx hb dX6_shortestOf_17 rfl (lv_at hl 2 rfl) ?_
    refine lv_iconst (v := (2 : Int32)) hx hb dX6_shortestOf_18 (by decide) ?_
    refine lv_iload_n hx hb dX6_shortestOf_19 rfl (lv_at hl 2 rfl) ?_
    refine lv_imul hx hb dX6_shortestOf_20 ?_
    refine lv_iconst (v := (1 : Int32)) hx hb dX6_shortestOf_21 (by decide) ?_
    refine lv_iadd hx hb dX6_shortestOf_22 ?_
    refine lv_aload_n hx hb dX6_shortestOf_23 rfl (lv_at hl 1 rfl) ?_
    refine va_get (D := D) (ci := 6) (v := .ref a9) (C := RX6) (T := TX6) (N := 24) hx hb hts inX6 hown hK hP 0 rfl rfl 15 (by decide) (hts _ q_669) (fun _ h9 => h9) rfl dX6_shortestOf_24 ?_
    obtain ⟨u3, hu3, hf⟩ := bind_some hf
    refine wcVv (A := A) (wc := wX6 C a0 a1 a2 a3 a4 a5 a6 a7 a8 a9 a10 a11 a12 a13 a14 a15 o_n o_all o_made o_own0 o_own1 o_threatMany o_length o_holes o_tellings o_game o_near o_kept o_isKept o_threatOf o_threatSet o_text u1.2 o_back o_hole o_isWon o_won o_lasts o_power o_told) (w1 := wX6 C a0 a1 a2 a3 a4 a5 a6 a7 a8 a9 a10 a11 a12 a13 a14 a15 o_n o_all o_made o_own0 o_own1 o_threatMany o_length o_holes o_tellings o_game o_near o_kept o_isKept o_threatOf o_threatSet o_text u1.2 u3 o_hole o_isWon o_won o_lasts o_power o_told) (rc := []) (As := [.int p1, .int (((2 : Int32) * p1) + (1 : Int32)), .ref a9]) (rest := []) hc k_X6_151 (c_X6_levels_back l D C _ a0 a1 a2 a3 a4 a5 a6 a7 a8 a9 a10 a11 a12 a13 a14 a15 o_n o_all o_made o_own0 o_own1 o_threatMany o_length o_holes o_tellings o_game o_near o_kept o_isKept o_threatOf o_threatSet o_text u1.2 o_back o_hole o_isWon o_won o_lasts o_power o_told p1 (((2 : Int32) * p1) + (1 : Int32))  _ hu3) ⟨rfl, rfl, Nat.le_of_ble_eq_true rfl, Nat.le_of_ble_eq_true rfl⟩ hP hD hS hA hK [0, 1, 2, 3, 4, 5, 6, 7, 8, 9, 10, 11, 12, 13, 14, 15] [] rfl rfl rfl rfl (by decide) (hP.sub [] rfl) Ap_nil (q0 := 0) rfl rfl rfl hl rfl rfl (Nat.le_of_ble_eq_true rfl) ⟨Nat.zero_le _, Nat.zero_le _⟩ dX6_shortestOf_27 (fun H locs hP hD hS => ?_)
    have hP : va_P D vwCl (wX6 C a0 a1 a2 a3 a4 a5 a6 a7 a8 a9 a10 a11 a12 a13 a14 a15 o_n o_all o_made o_own0 o_own1 o_threatMany o_length o_holes o_tellings o_game o_near o_kept o_isKept o_threatOf o_threatSet o_text u1.2 u3 o_hole o_isWon o_won o_lasts o_power o_told) H := hP.sub [0, 1, 2, 3, 4, 5, 6, 7, 8, 9, 10, 11, 12, 13, 14, 15] rfl
    have hD : va_D A (wX6 C a0 a1 a2 a3 a4 a5 a6 a7 a8 a9 a10 a11 a12 a13 a14 a15 o_n o_all o_made o_own0 o_own1 o_threatMany o_length o_holes o_tellings o_game o_near o_kept o_isKept o_threatOf o_threatSet o_text u1.2 u3 o_hole o_isWon o_won o_lasts o_power o_told) := hD.sub [0, 1, 2, 3, 4, 5, 6, 7, 8, 9, 10, 11, 12, 13, 14, 15] rfl rfl
    refine lv_lconst (v := (0 : Int64)) hx hb dX6_shortestOf_30 (by decide) ?_
    refine lv_lstore_n (lv' := [(3, .long (0 : Int64)), (2, .int u1.1), (0, .ref a0), (1, .int p1)]) hx hb dX6_shortestOf_31 rfl hl (by decide) rfl (fun ls hl => ?_)
    refine lv_iconst (v := (0 : Int32)) hx hb dX6_shortestOf_32 (by decide) ?_
    refine lv_istore (lv' := [(5, .int (0 : Int32)), (3, .long (0 : Int64)), (2, .int u1.1), (0, .ref a0), (1, .int p1)]) hx hb dX6_shortestOf_33 hl (by decide) rfl (fun ls hl => ?_)
    exact w_X6_shortestOf_c35 hc hK hA hO hN  FU u1.1 (0 : Int64) (0 : Int32) u1.2 u3 hf _ _ hP hD hS ls (lv_sub hl [3, 2, 1, 0] rfl)
  · have hf := if_t hf c2
    refine lv_ldc2 (v := (-15 : Int64)) hx hb hown (hts _ q_871) dX6_shortestOf_12 ?_
    have hf := Option.some.inj hf
    subst hf
    exact rWl hc rfl hP hD hS dX6_shortestOf_15

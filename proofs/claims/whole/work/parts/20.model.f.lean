abbrev R_X6_needed : Room := { frames := 4, cells := 0, slots := 0, locals := 90 }
def m_X6_needed (o_n : Int32) (o_own0 : Int64) (o_own1 : Int64) (o_threatMany : Int32) (o_threatOf : Nat → Int32) (o_threatSet : Nat → Int64) (p1 : Int32) : Option (Int64) := (if (m_X6_isPlayer p1) = 0 then some (-11 : Int64) else ((m_X6_neededOf o_n o_own0 o_own1 o_threatMany o_threatOf o_threatSet p1).bind fun u2 => some u2))
set_option maxHeartbeats 4000000 in
set_option maxRecDepth 100000 in
theorem c_X6_needed (l : Launch) (D : va_G) (C : Nat → ClassId) (z0 : Nat) (z1 : Nat) (z2 : Nat) (o_n : Int32) (r_o_game : Nat) (o_all : Int32) (o_made : Int32) (o_own0 : Int64) (o_own1 : Int64) (r_o_near : Nat) (r_o_kept : Nat) (r_o_isKept : Nat) (o_threatMany : Int32) (r_o_text : Nat) (o_length : Int32) (r_o_far : Nat) (r_o_back : Nat) (r_o_hole : Nat) (o_holes : Int32) (r_o_isWon : Nat) (r_o_won : Nat) (r_o_lasts : Nat) (r_o_power : Nat) (r_o_told : Nat) (o_tellings : Int32) (o_threatOf : Nat → Int32) (o_threatSet : Nat → Int64) (p1 : Int32) (o : Int64) (hf : m_X6_needed o_n o_own0 o_own1 o_threatMany o_threatOf o_threatSet p1 = some o) : Met l yX6_needed (wl yX6_needed cX6_needed 2 (some .long)) R_X6_needed (PR [.ref z0, .int p1] D C [cX6 z0 o_n r_o_game o_all o_made o_own0 o_own1 r_o_near r_o_kept r_o_isKept z1 z2 o_threatMany r_o_text o_length r_o_far r_o_back r_o_hole o_holes r_o_isWon r_o_won r_o_lasts r_o_power r_o_told o_tellings, aI C z1 6 o_threatOf, aJ C z2 6 o_threatSet]) (vp_Sl (fun r => r = o)) 0 0 (fun _ => False) := by
  refine Met_ofC (by decide) ?_
  intro p e s m args below meth c hc hv
  obtain ⟨rfl, hP, hK⟩ := hv
  have hx := hc.1
  have hb := hc.2.1
  have hown := hc.2.2.2.2.1
  have hts := hc.2.2.2.2.2.1
  refine en_F rfl (fun ls hl => ?_)
  have hl : lv_has ls 2 [(0, .ref z0), (1, .int p1)] := hl
  refine lv_iload_n hx hb dX6_needed_0 rfl (lv_at hl 1 rfl) ?_
  refine rcSi (As := [.int p1]) (rest := []) hc k_X6_136 (c_X6_isPlayer l D C p1  _ rfl) ⟨rfl, rfl, Nat.le_of_ble_eq_true rfl, Nat.le_of_ble_eq_true rfl⟩ (hP.sub [] rfl) hK hl rfl rfl (Nat.le_of_ble_eq_true rfl) ⟨Nat.zero_le _, Nat.zero_le _⟩ dX6_needed_1 ?_
  refine lv_if_eq (tgt := 15) hx hb dX6_needed_4 (by decide) (fun c1 => ?_) (fun c1 => ?_)
  · have hf := if_t hf c1
    refine lv_ldc2 (v := (-11 : Int64)) hx hb hown (hts _ q_827) dX6_needed_15 ?_
    exact rRl hc (Option.some.inj hf) dX6_needed_18
  · have hf := if_f hf c1
    refine lv_aload_n hx hb dX6_needed_7 rfl (lv_at hl 0 rfl) ?_
    refine lv_iload_n hx hb dX6_needed_8 rfl (lv_at hl 1 rfl) ?_
    obtain ⟨u2, hu2, hf⟩ := bind_some hf
    refine rcVl (As := [.int p1]) (rest := []) hc k_X6_245 (c_X6_neededOf l D C z0 z1 z2 o_n r_o_game o_all o_made o_own0 o_own1 r_o_near r_o_kept r_o_isKept o_threatMany r_o_text o_length r_o_far r_o_back r_o_hole o_holes r_o_isWon r_o_won r_o_lasts r_o_power r_o_told o_tellings o_threatOf o_threatSet p1  _ hu2) ⟨rfl, rfl, Nat.le_of_ble_eq_true rfl, Nat.le_of_ble_eq_true rfl⟩ (hP.sub [0, 1, 2] rfl) hK (q0 := 0) rfl rfl rfl hl rfl rfl (Nat.le_of_ble_eq_true rfl) ⟨Nat.zero_le _, Nat.zero_le _⟩ dX6_needed_9 ?_
    refine lv_goto (tgt := 18) hx hb dX6_needed_12 (by decide) ?_
    exact rRl hc (Option.some.inj hf) dX6_needed_18
abbrev R_X6_nth : Room := { frames := 2, cells := 0, slots := 0, locals := 44 }
def m_X6_nth_c5 (p1 : Int32)  : Nat → Int64 → Int32 → Option (Int32)
  | 0, _, _ => none
  | n + 1, v3, v5 => (if p1 ≤ v5 then ((m_X6_lowest v3).bind fun u2 => some u2) else (m_X6_nth_c5 p1  n (v3 &&& (v3 - (1 : Int64))) (v5 + (1 : Int32))))
set_option maxHeartbeats 4000000 in
set_option maxRecDepth 100000 in
theorem w_X6_nth_c5 {p : Program} {l : Launch} {e : Env} {s : State} {m : MethodId} {args : Array Value} {below : List Frame} {meth : Method} {c : Code} {D : va_G} {C : Nat → ClassId} {p1 : Int32} {o : Int32} (hc : Cx p s m args meth c yX6_nth cX6_nth 6 (some .int)) (hK : va_K D vwCl (TY C) s) (hP : va_P D vwCl ([] : va_W) s.heap) : ∀ (n : Nat), ∀ (v3 : Int64) (v5 : Int32), m_X6_nth_c5 p1  n v3 v5 = some o → ∀ (ls : Array Slot), lv_has ls 6 [(2, .int p1), (3, .long v3), (5, .int v5)] → W p l e R_X6_nth s m args below meth c s.heap [] 0 0 (MQ below (vp_Si (fun r => r = o)) args s 0 0 (fun _ => False)) (F0 m 5 ls []) := by
  have hx := hc.1
  have hb := hc.2.1
  have hown := hc.2.2.2.2.1
  have hts := hc.2.2.2.2.2.1
  intro n
  induction n with
  | zero =>
    intro v3 v5 hf
    exact no_some hf
  | succ n ih =>
    intro v3 v5 hf ls hl
    refine lv_iload hx hb dX6_nth_5 (lv_at hl 2 rfl) ?_
    refine lv_iload_n hx hb dX6_nth_7 rfl (lv_at hl 0 rfl) ?_
    refine lv_icmp_ge (tgt := 23) hx hb dX6_nth_8 (by decide) (fun c1 => ?_) (fun c1 => ?_)
    · have hf := if_t hf c1
      refine lv_lload_n hx hb dX6_nth_23 rfl (lv_at hl 1 rfl) ?_
      obtain ⟨u2, hu2, hf⟩ := bind_some hf
      refine rcSi (As := [.long v3]) (rest := []) hc k_X6_144 (c_X6_lowest l D C v3  _ hu2) ⟨rfl, rfl, Nat.le_of_ble_eq_true rfl, Nat.le_of_ble_eq_true rfl⟩ (hP.sub [] rfl) hK hl rfl rfl (Nat.le_of_ble_eq_true rfl) ⟨Nat.zero_le _, Nat.zero_le _⟩ dX6_nth_24 ?_
      exact rRi hc (Option.some.inj hf) dX6_nth_27
    · have hf := if_f hf c1
      refine lv_lload_n hx hb dX6_nth_11 rfl (lv_at hl 1 rfl) ?_
      refine lv_lload_n hx hb dX6_nth_12 rfl (lv_at hl 1 rfl) ?_
      refine lv_lconst (v := (1 : Int64)) hx hb dX6_nth_13 (by decide) ?_
      refine lv_lsub hx hb dX6_nth_14 ?_
      refine lv_land hx hb dX6_nth_15 ?_
      refine lv_lstore_n (lv' := [(3, .long (v3 &&& (v3 - (1 : Int64)))), (2, .int p1), (5, .int v5)]) hx hb dX6_nth_16 rfl hl (by decide) rfl (fun ls hl => ?_)
      refine lv_iinc (v := (v5 + (1 : Int32))) (lv' := [(5, .int (v5 + (1 : Int32))), (3, .long (v3 &&& (v3 - (1 : Int64)))), (2, .int p1)]) hx hb dX6_nth_17 hl (k := 2) rfl rfl (by decide) rfl (fun ls hl => ?_)
      refine lv_goto (tgt := 5) hx hb dX6_nth_20 (by decide) ?_
      exact ih (v3 &&& (v3 - (1 : Int64))) (v5 + (1 : Int32)) hf ls (lv_sub hl [2, 1, 0] rfl)
def m_X6_nth (p0 : Int64) (p1 : Int32) : Option (Int32) := (m_X6_nth_c5 p1 FU p0 (0 : Int32))
set_option maxHeartbeats 4000000 in
set_option maxRecDepth 100000 in
theorem c_X6_nth (l : Launch) (D : va_G) (C : Nat → ClassId) (p0 : Int64) (p1 : Int32) (o : Int32) (hf : m_X6_nth p0 p1 = some o) : Met l yX6_nth (wl yX6_nth cX6_nth 6 (some .int)) R_X6_nth (PR [.long p0, .int p1] D C ([] : va_W)) (vp_Si (fun r => r = o)) 0 0 (fun _ => False) := by
  refine Met_ofC (by decide) ?_
  intro p e s m args below meth c hc hv
  obtain ⟨rfl, hP, hK⟩ := hv
  have hx := hc.1
  have hb := hc.2.1
  have hown := hc.2.2.2.2.1
  have hts := hc.2.2.2.2.2.1
  refine en_F rfl (fun ls hl => ?_)
  have hl : lv_has ls 6 [(0, .long p0), (2, .int p1)] := hl
  refine lv_lload_n hx hb dX6_nth_0 rfl (lv_at hl 0 rfl) ?_
  refine lv_lstore_n (lv' := [(3, .long p0), (0, .long p0), (2, .int p1)]) hx hb dX6_nth_1 rfl hl (by decide) rfl (fun ls hl => ?_)
  refine lv_iconst (v := (0 : Int32)) hx hb dX6_nth_2 (by decide) ?_
  refine lv_istore (lv' := [(5, .int (0 : Int32)), (3, .long p0), (0, .long p0), (2, .int p1)]) hx hb dX6_nth_3 hl (by decide) rfl (fun ls hl => ?_)
  exact w_X6_nth_c5 hc hK hP  FU p0 (0 : Int32) hf ls (lv_sub hl [3, 1, 0] rfl)
abbrev R_X6_randomGames : Room := { frames := 4, cells := 0, slots := 0, locals := 98 }
def m_X6_randomGames_c147  (k26 : Int64 → Int32 → Int32 → Option (Int32)) (v3 : Int64) (v6 : Int32) (t0 : Int32) (t1 : Int32) : Option (Int32) := (k26 v3 (t1 + t0) (v6 + (1 : Int32)))
set_option maxHeartbeats 4000000 in
set_option maxRecDepth 100000 in
theorem w_X6_randomGames_c147 {p : Program} {l : Launch} {e : Env} {s : State} {m : MethodId} {args : Array Value} {below : List Frame} {meth : Method} {c : Code} {D : va_G} {C : Nat → ClassId} {z0 : Nat} {z1 : Nat} {o_n : Int32} {r_o_game : Nat} {o_all : Int32} {o_made : Int32} {o_own0 : Int64} {o_own1 : Int64} {r_o_kept : Nat} {r_o_isKept : Nat} {r_o_threatOf : Nat} {r_o_threatSet : Nat} {o_threatMany : Int32} {r_o_text : Nat} {o_length : Int32} {r_o_far : Nat} {r_o_back : Nat} {r_o_hole : Nat} {o_holes : Int32} {r_o_isWon : Nat} {r_o_won : Nat} {r_o_lasts : Nat} {r_o_power : Nat} {r_o_told : Nat} {o_tellings : Int32} {o_near : Nat → Int64} {p2 : Int32} {o : Int32} (hc : Cx p s m args meth c yX6_randomGames cX6_randomGames 14 (some .int)) (hK : va_K D vwCl (TY C) s) (hP : va_P D vwCl [cX6 z0 o_n r_o_game o_all o_made o_own0 o_own1 z1 r_o_kept r_o_isKept r_o_threatOf r_o_threatSet o_threatMany r_o_text o_length r_o_far r_o_back r_o_hole o_holes r_o_isWon r_o_won r_o_lasts r_o_power r_o_told o_tellings, aJ C z1 49 o_near] s.heap) (k26 : Int64 → Int32 → Int32 → Option (Int32)) (hk26 : ∀ (v3 : Int64) (v5 : Int32) (v6 : Int32), k26 v3 v5 v6 = some o → ∀ (ls : Array Slot), lv_has ls 14 [(0, .ref z0), (2, .int p2), (3, .long v3), (5, .int v5), (6, .int v6)] → W p l e R_X6_randomGames s m args below meth c s.heap [] 0 0 (MQ below (vp_Si (fun r => r = o)) args s 0 0 (fun _ => False)) (F0 m 26 ls [])) : ∀ (v3 : Int64) (v6 : Int32) (t0 : Int32) (t1 : Int32), m_X6_randomGames_c147  k26 v3 v6 t0 t1 = some o → ∀ (ls : Array Slot), lv_has ls 14 [(0, .ref z0), (2, .int p2), (3, .long v3), (6, .int v6)] → W p l e R_X6_randomGames s m args below meth c s.heap [] 0 0 (MQ below (vp_Si (fun r => r = o)) args s 0 0 (fun _ => False)) (F0 m 147 ls [.int t0, .int t1]) := by
  have hx := hc.1
  have hb := hc.2.1
  have hown := hc.2.2.2.2.1
  have hts := hc.2.2.2.2.2.1
  intro v3 v6 t0 t1 hf ls hl
  refine lv_iadd hx hb dX6_randomGames_147 ?_
  refine lv_istore (lv' := [(5, .int (t1 + t0)), (0, .ref z0), (2, .int p2), (3, .long v3), (6, .int v6)]) hx hb dX6_randomGames_148 hl (by decide) rfl (fun ls hl => ?_)
  refine lv_iinc (v := (v6 + (1 : Int32))) (lv' := [(6, .int (v6 + (1 : Int32))), (5, .int (t1 + t0)), (0, .ref z0), (2, .int p2), (3, .long v3)]) hx hb dX6_randomGames_150 hl (k := 4) rfl rfl (by decide) rfl (fun ls hl => ?_)
  refine lv_goto (tgt := 26) hx hb dX6_randomGames_153 (by decide) ?_
  exact hk26 v3 (t1 + t0) (v6 + (1 : Int32)) hf ls (lv_sub hl [2, 3, 4, 1, 0] rfl)
def m_X6_randomGames_c118  (k52 : Int64 → Int32 → Int32 → Int64 → Int64 → Int32 → Option (Int32)) (v3 : Int64) (v5 : Int32) (v6 : Int32) (v7 : Int64) (v11 : Int32) (t0 : Int64) (t1 : Int64) : Option (Int32) := (k52 v3 v5 v6 v7 (t1 ||| t0) ((1 : Int32) - v11))
set_option maxHeartbeats 4000000 in
set_option maxRecDepth 100000 in
theorem w_X6_randomGames_c118 {p : Program} {l : Launch} {e : Env} {s : State} {m : MethodId} {args : Array Value} {below : List Frame} {meth : Method} {c : Code} {D : va_G} {C : Nat → ClassId} {z0 : Nat} {z1 : Nat} {o_n : Int32} {r_o_game : Nat} {o_all : Int32} {o_made : Int32} {o_own0 : Int64} {o_own1 : Int64} {r_o_kept : Nat} {r_o_isKept : Nat} {r_o_threatOf : Nat} {r_o_threatSet : Nat} {o_threatMany : Int32} {r_o_text : Nat} {o_length : Int32} {r_o_far : Nat} {r_o_back : Nat} {r_o_hole : Nat} {o_holes : Int32} {r_o_isWon : Nat} {r_o_won : Nat} {r_o_lasts : Nat} {r_o_power : Nat} {r_o_told : Nat} {o_tellings : Int32} {o_near : Nat → Int64} {p2 : Int32} {o : Int32} (hc : Cx p s m args meth c yX6_randomGames cX6_randomGames 14 (some .int)) (hK : va_K D vwCl (TY C) s) (hP : va_P D vwCl [cX6 z0 o_n r_o_game o_all o_made o_own0 o_own1 z1 r_o_kept r_o_isKept r_o_threatOf r_o_threatSet o_threatMany r_o_text o_length r_o_far r_o_back r_o_hole o_holes r_o_isWon r_o_won r_o_lasts r_o_power r_o_told o_tellings, aJ C z1 49 o_near] s.heap) (k52 : Int64 → Int32 → Int32 → Int64 → Int64 → Int32 → Option (Int32)) (hk52 : ∀ (v3 : Int64) (v5 : Int32) (v6 : Int32) (v7 : Int64) (v9 : Int64) (v11 : Int32), k52 v3 v5 v6 v7 v9 v11 = some o → ∀ (ls : Array Slot), lv_has ls 14 [(0, .ref z0), (2, .int p2), (3, .long v3), (5, .int v5), (6, .int v6), (7, .long v7), (9, .long v9), (11, .int v11)] → W p l e R_X6_randomGames s m args below meth c s.heap [] 0 0 (MQ below (vp_Si (fun r => r = o)) args s 0 0 (fun _ => False)) (F0 m 52 ls [])) : ∀ (v3 : Int64) (v5 : Int32) (v6 : Int32) (v7 : Int64) (v11 : Int32) (t0 : Int64) (t1 : Int64), m_X6_randomGames_c118  k52 v3 v5 v6 v7 v11 t0 t1 = some o → ∀ (ls : Array Slot), lv_has ls 14 [(0, .ref z0), (2, .int p2), (3, .long v3), (5, .int v5), (6, .int v6), (7, .long v7), (11, .int v11)] → W p l e R_X6_randomGames s m args below meth c s.heap [] 0 0 (MQ below (vp_Si (fun r => r = o)) args s 0 0 (fun _ => False)) (F0 m 118 ls [.long t0, .long t1]) := by
  have hx := hc.1
  have hb := hc.2.1
  have hown := hc.2.2.2.2.1
  have hts := hc.2.2.2.2.2.1
  intro v3 v5 v6 v7 v11 t0 t1 hf ls hl
  refine lv_lor hx hb dX6_randomGames_118 ?_
  refine lv_lstore (lv' := [(9, .long (t1 ||| t0)), (0, .ref z0), (2, .int p2), (3, .long v3), (5, .int v5), (6, .int v6), (7, .long v7), (11, .int v11)]) hx hb dX6_randomGames_119 hl (by decide) rfl (fun ls hl => ?_)
  refine lv_iconst (v := (1 : Int32)) hx hb dX6_randomGames_121 (by decide) ?_
  refine lv_iload hx hb dX6_randomGames_122 (lv_at hl 7 rfl) ?_
  refine lv_isub hx hb dX6_randomGames_124 ?_
  refine lv_istore (lv' := [(11, .int ((1 : Int32) - v11)), (9, .long (t1 ||| t0)), (0, .ref z0), (2, .int p2), (3, .long v3), (5, .int v5), (6, .int v6), (7, .long v7)]) hx hb dX6_randomGames_125 hl (by decide) rfl (fun ls hl => ?_)
  refine lv_goto (tgt := 52) hx hb dX6_randomGames_127 (by decide) ?_
  exact hk52 v3 v5 v6 v7 (t1 ||| t0) ((1 : Int32) - v11) hf ls (lv_sub hl [2, 3, 4, 5, 6, 7, 1, 0] rfl)
def m_X6_randomGames_c52 (o_n : Int32) (o_near : Nat → Int64) (k26 : Int64 → Int32 → Int32 → Option (Int32)) : Nat → Int64 → Int32 → Int32 → Int64 → Int64 → Int32 → Option (Int32)
  | 0, _, _, _, _, _, _ => none
  | n + 1, v3, v5, v6, v7, v9, v11 => (if v7 = (0 : Int64) then ((m_X6_wins o_n o_near (0 : Int32) v9).bind fun u5 => (if u5 = 0 then (m_X6_randomGames_c147 k26 v3 v6 (0 : Int32) v5) else (m_X6_randomGames_c147 k26 v3 v6 (1 : Int32) v5))) else ((m_X6_size v7).bind fun u7 => (if u7 = 0 then none else ((m_X6_nth v7 (jirem (((jlrem ((v3 * (1103515245 : Int64)) + (12345 : Int64)) (2147483648 : Int64)) / (65536 : Int64)).toInt32) u7)).bind fun u9 => (if v11 = 0 then (m_X6_randomGames_c118 (m_X6_randomGames_c52 o_n o_near k26 n) (jlrem ((v3 * (1103515245 : Int64)) + (12345 : Int64)) (2147483648 : Int64)) v5 v6 (v7 &&& ((jshl (1 : Int64) u9) ^^^ (-1 : Int64))) v11 (jshl (1 : Int64) u9) v9) else (m_X6_randomGames_c118 (m_X6_randomGames_c52 o_n o_near k26 n) (jlrem ((v3 * (1103515245 : Int64)) + (12345 : Int64)) (2147483648 : Int64)) v5 v6 (v7 &&& ((jshl (1 : Int64) u9) ^^^ (-1 : Int64))) v11 (0 : Int64) v9))))))
set_option maxHeartbeats 4000000 in
set_option maxRecDepth 100000 in
theorem w_X6_randomGames_c52 {p : Program} {l : Launch} {e : Env} {s : State} {m : MethodId} {args : Array Value} {below : List Frame} {meth : Method} {c : Code} {D : va_G} {C : Nat → ClassId} {z0 : Nat} {z1 : Nat} {o_n : Int32} {r_o_game : Nat} {o_all : Int32} {o_made : Int32} {o_own0 : Int64} {o_own1 : Int64} {r_o_kept : Nat} {r_o_isKept : Nat} {r_o_threatOf : Nat} {r_o_threatSet : Nat} {o_threatMany : Int32} {r_o_text : Nat} {o_length : Int32} {r_o_far : Nat} {r_o_back : Nat} {r_o_hole : Nat} {o_holes : Int32} {r_o_isWon : Nat} {r_o_won : Nat} {r_o_lasts : Nat} {r_o_power : Nat} {r_o_told : Nat} {o_tellings : Int32} {o_near : Nat → Int64} {p2 : Int32} {o : Int32} (hc : Cx p s m args meth c yX6_randomGames cX6_randomGames 14 (some .int)) (hK : va_K D vwCl (TY C) s) (hP : va_P D vwCl [cX6 z0 o_n r_o_game o_all o_made o_own0 o_own1 z1 r_o_kept r_o_isKept r_o_threatOf r_o_threatSet o_threatMany r_o_text o_length r_o_far r_o_back r_o_hole o_holes r_o_isWon r_o_won r_o_lasts r_o_power r_o_told o_tellings, aJ C z1 49 o_near] s.heap) (k26 : Int64 → Int32 → Int32 → Option (Int32)) (hk26 : ∀ (v3 : Int64) (v5 : Int32) (v6 : Int32), k26 v3 v5 v6 = some o → ∀ (ls : Array Slot), lv_has ls 14 [(0, .ref z0), (2, .int p2), (3, .long v3), (5, .int v5), (6, .int v6)] → W p l e R_X6_randomGames s m args below meth c s.heap [] 0 0 (MQ below (vp_Si (fun r => r = o)) args s 0 0 (fun _ => False)) (F0 m 26 ls [])) : ∀ (n : Nat), ∀ (v3 : Int64) (v5 : Int32) (v6 : Int32) (v7 : Int64) (v9 : Int64) (v11 : Int32), m_X6_randomGames_c52 o_n o_near k26 n v3 v5 v6 v7 v9 v11 = some o → ∀ (ls : Array Slot), lv_has ls 14 [(0, .ref z0), (2, .int p2), (3, .long v3), (5, .int v5), (6, .int v6), (7, .long v7), (9, .long v9), (11, .int v11)] → W p l e R_X6_randomGames s m args below meth c s.heap [] 0 0 (MQ below (vp_Si (fun r => r = o)) args s 0 0 (fun _ => False)) (F0 m 52 ls []) := by
  have hx := hc.1
  have hb := hc.2.1
  have hown := hc.2.2.2.2.1
  have hts := hc.2.2.2.2.2.1
  intro n
  induction n with
  | zero =>
    intro v3 v5 v6 v7 v9 v11 hf
    exact no_some hf
  | succ n ih =>
    intro v3 v5 v6 v7 v9 v11 hf ls hl
    refine lv_lload hx hb dX6_randomGames_52 (lv_at hl 5 rfl) ?_
    refine lv_lconst (v := (0 : Int64)) hx hb dX6_randomGames_54 (by decide) ?_
    refine lc_eq (tgt := 130) hx hb dX6_randomGames_55 dX6_randomGames_56 (by decide) (fun c4 => ?_) (fun c4 => ?_)
    · have hf := if_t hf c4
      refine lv_iload hx hb dX6_randomGames_130 (lv_at hl 3 rfl) ?_
      refine lv_aload_n hx hb dX6_randomGames_132 rfl (lv_at hl 0 rfl) ?_
      refine lv_iconst (v := (0 : Int32)) hx hb dX6_randomGames_133 (by decide) ?_
      refine lv_lload hx hb dX6_randomGames_134 (lv_at hl 6 rfl) ?_
      obtain ⟨u5, hu5, hf⟩ := bind_some hf
      refine rcVi (As := [.int (0 : Int32), .long v9]) (rest := [.int v5]) hc k_X6_101 (c_X6_wins l D C z0 z1 o_n r_o_game o_all o_made o_own0 o_own1 r_o_kept r_o_isKept r_o_threatOf r_o_threatSet o_threatMany r_o_text o_length r_o_far r_o_back r_o_hole o_holes r_o_isWon r_o_won r_o_lasts r_o_power r_o_told o_tellings o_near (0 : Int32) v9  _ hu5) ⟨rfl, rfl, Nat.le_of_ble_eq_true rfl, Nat.le_of_ble_eq_true rfl⟩ (hP.sub [0, 1] rfl) hK (q0 := 0) rfl rfl rfl hl rfl rfl (Nat.le_of_ble_eq_true rfl) ⟨Nat.zero_le _, Nat.zero_le _⟩ dX6_randomGames_136 ?_
      refine lv_if_eq (tgt := 146) hx hb dX6_randomGames_139 (by decide) (fun c6 => ?_) (fun c6 => ?_)
      · have hf := if_t hf c6
        refine lv_iconst (v := (0 : Int32)) hx hb dX6_randomGames_146 (by decide) ?_
        exact w_X6_randomGames_c147 hc hK hP k26 hk26 v3 v6 (0 : Int32) v5 hf ls (lv_sub hl [0, 1, 2, 4] rfl)
      · have hf := if_f hf c6
        refine lv_iconst (v := (1 : Int32)) hx hb dX6_randomGames_142 (by decide) ?_
        refine lv_goto (tgt := 147) hx hb dX6_randomGames_143 (by decide) ?_
        exact w_X6_randomGames_c147 hc hK hP k26 hk26 v3 v6 (1 : Int32) v5 hf ls (lv_sub hl [0, 1, 2, 4] rfl)
    · have hf := if_f hf c4
      refine lv_lload_n hx hb dX6_randomGames_59 rfl (lv_at hl 2 rfl) ?_
      refine lv_ldc2 (v := (1103515245 : Int64)) hx hb hown (hts _ q_1034) dX6_randomGames_60 ?_
      refine lv_lmul hx hb dX6_randomGames_63 ?_
      refine lv_ldc2 (v := (12345 : Int64)) hx hb hown (hts _ q_1035) dX6_randomGames_64 ?_
      refine lv_ladd hx hb dX6_randomGames_67 ?_
      refine lv_ldc2 (v := (2147483648 : Int64)) hx hb hown (hts _ q_1036) dX6_randomGames_68 ?_
      refine lv_lrem hx hb dX6_randomGames_71 (by decide) ?_
      refine lv_lstore_n (lv' := [(3, .long (jlrem ((v3 * (1103515245 : Int64)) + (12345 : Int64)) (2147483648 : Int64))), (0, .ref z0), (2, .int p2), (5, .int v5), (6, .int v6), (7, .long v7), (9, .long v9), (11, .int v11)]) hx hb dX6_randomGames_72 rfl hl (by decide) rfl (fun ls hl => ?_)
      refine lv_lconst (v := (1 : Int64)) hx hb dX6_randomGames_73 (by decide) ?_
      refine lv_lload hx hb dX6_randomGames_74 (lv_at hl 5 rfl) ?_
      refine lv_lload_n hx hb dX6_randomGames_76 rfl (lv_at hl 0 rfl) ?_
      refine lv_ldc2 (v := (65536 : Int64)) hx hb hown (hts _ q_1037) dX6_randomGames_77 ?_
      refine lv_ldiv hx hb dX6_randomGames_80 (by decide) ?_
      refine lv_l2i (v := ((jlrem ((v3 * (1103515245 : Int64)) + (12345 : Int64)) (2147483648 : Int64)) / (65536 : Int64)).toInt32) hx hb dX6_randomGames_81 rfl ?_
      refine lv_lload hx hb dX6_randomGames_82 (lv_at hl 5 rfl) ?_
      obtain ⟨u7, hu7, hf⟩ := bind_some hf
      refine rcSi (As := [.long v7]) (rest := [.int (((jlrem ((v3 * (1103515245 : Int64)) + (12345 : Int64)) (2147483648 : Int64)) / (65536 : Int64)).toInt32), .long v7, .long (1 : Int64)]) hc k_X6_164 (c_X6_size l D C v7  _ hu7) ⟨rfl, rfl, Nat.le_of_ble_eq_true rfl, Nat.le_of_ble_eq_true rfl⟩ (hP.sub [] rfl) hK hl rfl rfl (Nat.le_of_ble_eq_true rfl) ⟨Nat.zero_le _, Nat.zero_le _⟩ dX6_randomGames_84 ?_
      obtain ⟨h8, hf⟩ := nz_t hf
      refine lv_irem hx hb dX6_randomGames_87 h8 ?_
      obtain ⟨u9, hu9, hf⟩ := bind_some hf
      refine rcSi (As := [.long v7, .int (jirem (((jlrem ((v3 * (1103515245 : Int64)) + (12345 : Int64)) (2147483648 : Int64)) / (65536 : Int64)).toInt32) u7)]) (rest := [.long (1 : Int64)]) hc k_X6_256 (c_X6_nth l D C v7 (jirem (((jlrem ((v3 * (1103515245 : Int64)) + (12345 : Int64)) (2147483648 : Int64)) / (65536 : Int64)).toInt32) u7)  _ hu9) ⟨rfl, rfl, Nat.le_of_ble_eq_true rfl, Nat.le_of_ble_eq_true rfl⟩ (hP.sub [] rfl) hK hl rfl rfl (Nat.le_of_ble_eq_true rfl) ⟨Nat.zero_le _, Nat.zero_le _⟩ dX6_randomGames_88 ?_
      refine lv_lshl (v := (jshl (1 : Int64) u9)) hx hb dX6_randomGames_91 rfl ?_
      refine lv_lstore (lv' := [(12, .long (jshl (1 : Int64) u9)), (3, .long (jlrem ((v3 * (1103515245 : Int64)) + (12345 : Int64)) (2147483648 : Int64))), (0, .ref z0), (2, .int p2), (5, .int v5), (6, .int v6), (7, .long v7), (9, .long v9), (11, .int v11)]) hx hb dX6_randomGames_92 hl (by decide) rfl (fun ls hl => ?_)
      refine lv_lload hx hb dX6_randomGames_94 (lv_at hl 6 rfl) ?_
      refine lv_lload hx hb dX6_randomGames_96 (lv_at hl 0 rfl) ?_
      refine lv_ldc2 (v := (-1 : Int64)) hx hb hown (hts _ q_760) dX6_randomGames_98 ?_
      refine lv_lxor hx hb dX6_randomGames_101 ?_
      refine lv_land hx hb dX6_randomGames_102 ?_
      refine lv_lstore (lv' := [(7, .long (v7 &&& ((jshl (1 : Int64) u9) ^^^ (-1 : Int64)))), (12, .long (jshl (1 : Int64) u9)), (3, .long (jlrem ((v3 * (1103515245 : Int64)) + (12345 : Int64)) (2147483648 : Int64))), (0, .ref z0), (2, .int p2), (5, .int v5), (6, .int v6), (9, .long v9), (11, .int v11)]) hx hb dX6_randomGames_103 hl (by decide) rfl (fun ls hl => ?_)
      refine lv_lload hx hb dX6_randomGames_105 (lv_at hl 7 rfl) ?_
      refine lv_iload hx hb dX6_randomGames_107 (lv_at hl 8 rfl) ?_
      refine lv_if_ne (tgt := 117) hx hb dX6_randomGames_109 (by decide) (fun c10 => ?_) (fun c10 => ?_)
      · have hf := if_f hf c10
        refine lv_lconst (v := (0 : Int64)) hx hb dX6_randomGames_117 (by decide) ?_
        exact w_X6_randomGames_c118 hc hK hP (m_X6_randomGames_c52 o_n o_near k26 n) ih (jlrem ((v3 * (1103515245 : Int64)) + (12345 : Int64)) (2147483648 : Int64)) v5 v6 (v7 &&& ((jshl (1 : Int64) u9) ^^^ (-1 : Int64))) v11 (0 : Int64) v9 hf ls (lv_sub hl [3, 4, 2, 5, 6, 0, 8] rfl)
      · have hf := if_t hf c10
        refine lv_lload hx hb dX6_randomGames_112 (lv_at hl 1 rfl) ?_
        refine lv_goto (tgt := 118) hx hb dX6_randomGames_114 (by decide) ?_
        exact w_X6_randomGames_c118 hc hK hP (m_X6_randomGames_c52 o_n o_near k26 n) ih (jlrem ((v3 * (1103515245 : Int64)) + (12345 : Int64)) (2147483648 : Int64)) v5 v6 (v7 &&& ((jshl (1 : Int64) u9) ^^^ (-1 : Int64))) v11 (jshl (1 : Int64) u9) v9 hf ls (lv_sub hl [3, 4, 2, 5, 6, 0, 8] rfl)
def m_X6_randomGames_c26 (o_n : Int32) (o_made : Int32) (o_own0 : Int64) (o_own1 : Int64) (o_near : Nat → Int64) (p2 : Int32)  : Nat → Int64 → Int32 → Int32 → Option (Int32)
  | 0, _, _, _ => none
  | n + 1, v3, v5, v6 => (if p2 ≤ v6 then some v5 else (m_X6_randomGames_c52 o_n o_near (m_X6_randomGames_c26 o_n o_made o_own0 o_own1 o_near p2  n) FU v3 v5 v6 (m_X6_free o_n o_own0 o_own1) o_own0 (jirem o_made (2 : Int32))))
set_option maxHeartbeats 4000000 in
set_option maxRecDepth 100000 in
theorem w_X6_randomGames_c26 {p : Program} {l : Launch} {e : Env} {s : State} {m : MethodId} {args : Array Value} {below : List Frame} {meth : Method} {c : Code} {D : va_G} {C : Nat → ClassId} {z0 : Nat} {z1 : Nat} {o_n : Int32} {r_o_game : Nat} {o_all : Int32} {o_made : Int32} {o_own0 : Int64} {o_own1 : Int64} {r_o_kept : Nat} {r_o_isKept : Nat} {r_o_threatOf : Nat} {r_o_threatSet : Nat} {o_threatMany : Int32} {r_o_text : Nat} {o_length : Int32} {r_o_far : Nat} {r_o_back : Nat} {r_o_hole : Nat} {o_holes : Int32} {r_o_isWon : Nat} {r_o_won : Nat} {r_o_lasts : Nat} {r_o_power : Nat} {r_o_told : Nat} {o_tellings : Int32} {o_near : Nat → Int64} {p2 : Int32} {o : Int32} (hc : Cx p s m args meth c yX6_randomGames cX6_randomGames 14 (some .int)) (hK : va_K D vwCl (TY C) s) (hP : va_P D vwCl [cX6 z0 o_n r_o_game o_all o_made o_own0 o_own1 z1 r_o_kept r_o_isKept r_o_threatOf r_o_threatSet o_threatMany r_o_text o_length r_o_far r_o_back r_o_hole o_holes r_o_isWon r_o_won r_o_lasts r_o_power r_o_told o_tellings, aJ C z1 49 o_near] s.heap) : ∀ (n : Nat), ∀ (v3 : Int64) (v5 : Int32) (v6 : Int32), m_X6_randomGames_c26 o_n o_made o_own0 o_own1 o_near p2  n v3 v5 v6 = some o → ∀ (ls : Array Slot), lv_has ls 14 [(0, .ref z0), (2, .int p2), (3, .long v3), (5, .int v5), (6, .int v6)] → W p l e R_X6_randomGames s m args below meth c s.heap [] 0 0 (MQ below (vp_Si (fun r => r = o)) args s 0 0 (fun _ => False)) (F0 m 26 ls []) := by
  have hx := hc.1
  have hb := hc.2.1
  have hown := hc.2.2.2.2.1
  have hts := hc.2.2.2.2.2.1
  intro n
  induction n with
  | zero =>
    intro v3 v5 v6 hf
    exact no_some hf
  | succ n ih =>
    intro v3 v5 v6 hf ls hl
    refine lv_iload hx hb dX6_randomGames_26 (lv_at hl 4 rfl) ?_
    refine lv_iload_n hx hb dX6_randomGames_28 rfl (lv_at hl 1 rfl) ?_
    refine lv_icmp_ge (tgt := 156) hx hb dX6_randomGames_29 (by decide) (fun c3 => ?_) (fun c3 => ?_)
    · have hf := if_t hf c3
      refine lv_iload hx hb dX6_randomGames_156 (lv_at hl 3 rfl) ?_
      exact rRi hc (Option.some.inj hf) dX6_randomGames_158
    · have hf := if_f hf c3
      refine lv_aload_n hx hb dX6_randomGames_32 rfl (lv_at hl 0 rfl) ?_
      refine rcVl (As := []) (rest := []) hc k_X6_126 (c_X6_free l D C z0 o_n r_o_game o_all o_made o_own0 o_own1 z1 r_o_kept r_o_isKept r_o_threatOf r_o_threatSet o_threatMany r_o_text o_length r_o_far r_o_back r_o_hole o_holes r_o_isWon r_o_won r_o_lasts r_o_power r_o_told o_tellings  _ rfl) ⟨rfl, rfl, Nat.le_of_ble_eq_true rfl, Nat.le_of_ble_eq_true rfl⟩ (hP.sub [0] rfl) hK (q0 := 0) rfl rfl rfl hl rfl rfl (Nat.le_of_ble_eq_true rfl) ⟨Nat.zero_le _, Nat.zero_le _⟩ dX6_randomGames_33 ?_
      refine lv_lstore (lv' := [(7, .long (m_X6_free o_n o_own0 o_own1)), (0, .ref z0), (2, .int p2), (3, .long v3), (5, .int v5), (6, .int v6)]) hx hb dX6_randomGames_36 hl (by decide) rfl (fun ls hl => ?_)
      refine lv_aload_n hx hb dX6_randomGames_38 rfl (lv_at hl 1 rfl) ?_
      refine va_get (D := D) (ci := 6) (v := .long o_own0) (C := RX6) (T := TX6) (N := 24) hx hb hts inX6 hown hK hP 0 rfl rfl 4 (by decide) (hts _ q_658) (fun _ h9 => h9) rfl dX6_randomGames_39 ?_
      refine lv_lstore (lv' := [(9, .long o_own0), (7, .long (m_X6_free o_n o_own0 o_own1)), (0, .ref z0), (2, .int p2), (3, .long v3), (5, .int v5), (6, .int v6)]) hx hb dX6_randomGames_42 hl (by decide) rfl (fun ls hl => ?_)
      refine lv_aload_n hx hb dX6_randomGames_44 rfl (lv_at hl 2 rfl) ?_
      refine va_get (D := D) (ci := 6) (v := .int o_made) (C := RX6) (T := TX6) (N := 24) hx hb hts inX6 hown hK hP 0 rfl rfl 3 (by decide) (hts _ q_657) (fun _ h9 => h9) rfl dX6_randomGames_45 ?_
      refine lv_iconst (v := (2 : Int32)) hx hb dX6_randomGames_48 (by decide) ?_
      refine lv_irem hx hb dX6_randomGames_49 (by decide) ?_
      refine lv_istore (lv' := [(11, .int (jirem o_made (2 : Int32))), (9, .long o_own0), (7, .long (m_X6_free o_n o_own0 o_own1)), (0, .ref z0), (2, .int p2), (3, .long v3), (5, .int v5), (6, .int v6)]) hx hb dX6_randomGames_50 hl (by decide) rfl (fun ls hl => ?_)
      exact w_X6_randomGames_c52 hc hK hP (m_X6_randomGames_c26 o_n o_made o_own0 o_own1 o_near p2  n) ih FU v3 v5 v6 (m_X6_free o_n o_own0 o_own1) o_own0 (jirem o_made (2 : Int32)) hf ls (lv_sub hl [3, 4, 5, 6, 7, 2, 1, 0] rfl)
def m_X6_randomGames (o_n : Int32) (o_made : Int32) (o_own0 : Int64) (o_own1 : Int64) (o_near : Nat → Int64) (p1 : Int32) (p2 : Int32) : Option (Int32) := (if p1 < 0 then some (-12 : Int32) else (if (m_X6_in p2 (1 : Int32) (50 : Int32)) = 0 then some (-12 : Int32) else (m_X6_randomGames_c26 o_n o_made o_own0 o_own1 o_near p2 FU p1.toInt64 (0 : Int32) (0 : Int32))))
set_option maxHeartbeats 4000000 in
set_option maxRecDepth 100000 in
theorem c_X6_randomGames (l : Launch) (D : va_G) (C : Nat → ClassId) (z0 : Nat) (z1 : Nat) (o_n : Int32) (r_o_game : Nat) (o_all : Int32) (o_made : Int32) (o_own0 : Int64) (o_own1 : Int64) (r_o_kept : Nat) (r_o_isKept : Nat) (r_o_threatOf : Nat) (r_o_threatSet : Nat) (o_threatMany : Int32) (r_o_text : Nat) (o_length : Int32) (r_o_far : Nat) (r_o_back : Nat) (r_o_hole : Nat) (o_holes : Int32) (r_o_isWon : Nat) (r_o_won : Nat) (r_o_lasts : Nat) (r_o_power : Nat) (r_o_told : Nat) (o_tellings : Int32) (o_near : Nat → Int64) (p1 : Int32) (p2 : Int32) (o : Int32) (hf : m_X6_randomGames o_n o_made o_own0 o_own1 o_near p1 p2 = some o) : Met l yX6_randomGames (wl yX6_randomGames cX6_randomGames 14 (some .int)) R_X6_randomGames (PR [.ref z0, .int p1, .int p2] D C [cX6 z0 o_n r_o_game o_all o_made o_own0 o_own1 z1 r_o_kept r_o_isKept r_o_threatOf r_o_threatSet o_threatMany r_o_text o_length r_o_far r_o_back r_o_hole o_holes r_o_isWon r_o_won r_o_lasts r_o_power r_o_told o_tellings, aJ C z1 49 o_near]) (vp_Si (fun r => r = o)) 0 0 (fun _ => False) := by
  refine Met_ofC (by decide) ?_
  intro p e s m args below meth c hc hv
  obtain ⟨rfl, hP, hK⟩ := hv
  have hx := hc.1
  have hb := hc.2.1
  have hown := hc.2.2.2.2.1
  have hts := hc.2.2.2.2.2.1
  refine en_F rfl (fun ls hl => ?_)
  have hl : lv_has ls 14 [(0, .ref z0), (1, .int p1), (2, .int p2)] := hl
  refine lv_iload_n hx hb dX6_randomGames_0 rfl (lv_at hl 1 rfl) ?_
  refine lv_if_lt (tgt := 14) hx hb dX6_randomGames_1 (by decide) (fun c1 => ?_) (fun c1 => ?_)
  · have hf := if_t hf c1
    refine lv_bipush (v := (-12 : Int32)) hx hb dX6_randomGames_14 (by decide) ?_
    exact rRi hc (Option.some.inj hf) dX6_randomGames_16
  · have hf := if_f hf c1
    refine lv_iload_n hx hb dX6_randomGames_4 rfl (lv_at hl 2 rfl) ?_
    refine lv_iconst (v := (1 : Int32)) hx hb dX6_randomGames_5 (by decide) ?_
    refine lv_bipush (v := (50 : Int32)) hx hb dX6_randomGames_6 (by decide) ?_
    refine rcSi (As := [.int p2, .int (1 : Int32), .int (50 : Int32)]) (rest := []) hc k_X6_64 (c_X6_in l D C p2 (1 : Int32) (50 : Int32)  _ rfl) ⟨rfl, rfl, Nat.le_of_ble_eq_true rfl, Nat.le_of_ble_eq_true rfl⟩ (hP.sub [] rfl) hK hl rfl rfl (Nat.le_of_ble_eq_true rfl) ⟨Nat.zero_le _, Nat.zero_le _⟩ dX6_randomGames_8 ?_
    refine lv_if_ne (tgt := 17) hx hb dX6_randomGames_11 (by decide) (fun c2 => ?_) (fun c2 => ?_)
    · have hf := if_f hf c2
      refine lv_iload_n hx hb dX6_randomGames_17 rfl (lv_at hl 1 rfl) ?_
      refine lv_i2l (v := p1.toInt64) hx hb dX6_randomGames_18 rfl ?_
      refine lv_lstore_n (lv' := [(3, .long p1.toInt64), (0, .ref z0), (1, .int p1), (2, .int p2)]) hx hb dX6_randomGames_19 rfl hl (by decide) rfl (fun ls hl => ?_)
      refine lv_iconst (v := (0 : Int32)) hx hb dX6_randomGames_20 (by decide) ?_
      refine lv_istore (lv' := [(5, .int (0 : Int32)), (3, .long p1.toInt64), (0, .ref z0), (1, .int p1), (2, .int p2)]) hx hb dX6_randomGames_21 hl (by decide) rfl (fun ls hl => ?_)
      refine lv_iconst (v := (0 : Int32)) hx hb dX6_randomGames_23 (by decide) ?_
      refine lv_istore (lv' := [(6, .int (0 : Int32)), (5, .int (0 : Int32)), (3, .long p1.toInt64), (0, .ref z0), (1, .int p1), (2, .int p2)]) hx hb dX6_randomGames_24 hl (by decide) rfl (fun ls hl => ?_)
      exact w_X6_randomGames_c26 hc hK hP  FU p1.toInt64 (0 : Int32) (0 : Int32) hf ls (lv_sub hl [3, 5, 2, 1, 0] rfl)
    · have hf := if_t hf c2
      refine lv_bipush (v := (-12 : Int32)) hx hb dX6_randomGames_14 (by decide) ?_
      exact rRi hc (Option.some.inj hf) dX6_randomGames_16
abbrev R_X6_append : Room := { frames := 1, cells := 0, slots := 0, locals := 22 }
def m_X6_append (o_length : Int32) (o_text : Nat → Int32) (p1 : Int32) : Option (Int32 × Int32 × (Nat → Int32)) := (if (m_X6_in p1 (0 : Int32) (127 : Int32)) = 0 then some ((-12 : Int32), o_length, o_text) else (if o_length = (100 : Int32) then some ((-14 : Int32), o_length, o_text) else (if okI o_length 100 = true then some ((o_length + (1 : Int32)), (o_length + (1 : Int32)), (upd o_text o_length.toNatClampNeg p1)) else none)))
set_option maxHeartbeats 4000000 in
set_option maxRecDepth 100000 in
theorem c_X6_append (l : Launch) (D : va_G) (C : Nat → ClassId) (sz : Nat) (a0 : Nat) (a1 : Nat) (a2 : Nat) (a3 : Nat) (a4 : Nat) (a5 : Nat) (a6 : Nat) (a7 : Nat) (a8 : Nat) (a9 : Nat) (a10 : Nat) (a11 : Nat) (a12 : Nat) (a13 : Nat) (a14 : Nat) (a15 : Nat) (o_n : Int32) (o_all : Int32) (o_made : Int32) (o_own0 : Int64) (o_own1 : Int64) (o_threatMany : Int32) (o_length : Int32) (o_holes : Int32) (o_tellings : Int32) (o_game : Nat → Int32) (o_near : Nat → Int64) (o_kept : Nat → Int32) (o_isKept : Nat → Int32) (o_threatOf : Nat → Int32) (o_threatSet : Nat → Int64) (o_text : Nat → Int32) (o_far : Nat → Int32) (o_back : Nat → Int32) (o_hole : Nat → Int32) (o_isWon : Nat → Int32) (o_won : Nat → Int32) (o_lasts : Nat → Int32) (o_power : Nat → Int32) (o_told : Nat → Int32) (p1 : Int32) (o : Int32 × Int32 × (Nat → Int32)) (hf : m_X6_append o_length o_text p1 = some o) : Met l yX6_append (wl yX6_append cX6_append 2 (some .int)) R_X6_append (PW [.ref a0, .int p1] D C sz (wX6 C a0 a1 a2 a3 a4 a5 a6 a7 a8 a9 a10 a11 a12 a13 a14 a15 o_n o_all o_made o_own0 o_own1 o_threatMany o_length o_holes o_tellings o_game o_near o_kept o_isKept o_threatOf o_threatSet o_text o_far o_back o_hole o_isWon o_won o_lasts o_power o_told) ([] : va_W)) (QWi D o.1 (wX6 C a0 a1 a2 a3 a4 a5 a6 a7 a8 a9 a10 a11 a12 a13 a14 a15 o_n o_all o_made o_own0 o_own1 o_threatMany o.2.1 o_holes o_tellings o_game o_near o_kept o_isKept o_threatOf o_threatSet o.2.2 o_far o_back o_hole o_isWon o_won o_lasts o_power o_told) (va_A (wX6 C a0 a1 a2 a3 a4 a5 a6 a7 a8 a9 a10 a11 a12 a13 a14 a15 o_n o_all o_made o_own0 o_own1 o_threatMany o_length o_holes o_tellings o_game o_near o_kept o_isKept o_threatOf o_threatSet o_text o_far o_back o_hole o_isWon o_won o_lasts o_power o_told) sz)) 0 0 (va_A (wX6 C a0 a1 a2 a3 a4 a5 a6 a7 a8 a9 a10 a11 a12 a13 a14 a15 o_n o_all o_made o_own0 o_own1 o_threatMany o_length o_holes o_tellings o_game o_near o_kept o_isKept o_threatOf o_threatSet o_text o_far o_back o_hole o_isWon o_won o_lasts o_power o_told) sz) := by
  refine Met_ofC (by decide) ?_
  intro p e s m args below meth c hc hv
  obtain ⟨rfl, hsz, hP, hK, hD0, hO, hN0⟩ := hv
  subst hsz
  have hD := hD0.self (sz := s.heap.size)
  have hN : ∀ q ∈ ([] : va_W), ¬ va_A (wX6 C a0 a1 a2 a3 a4 a5 a6 a7 a8 a9 a10 a11 a12 a13 a14 a15 o_n o_all o_made o_own0 o_own1 o_threatMany o_length o_holes o_tellings o_game o_near o_kept o_isKept o_threatOf o_threatSet o_text o_far o_back o_hole o_isWon o_won o_lasts o_power o_told) s.heap.size q.1 := hN0
  generalize hAe : va_A (wX6 C a0 a1 a2 a3 a4 a5 a6 a7 a8 a9 a10 a11 a12 a13 a14 a15 o_n o_all o_made o_own0 o_own1 o_threatMany o_length o_holes o_tellings o_game o_near o_kept o_isKept o_threatOf o_threatSet o_text o_far o_back o_hole o_isWon o_won o_lasts o_power o_told) s.heap.size = A at hD hN ⊢
  have hA : ∀ q : Nat, s.heap.size ≤ q → A q := fun q h => by rw [← hAe]; exact Or.inr h
  have hS : va_S A s.heap s.heap [] := va_S.rf
  have hx := hc.1
  have hb := hc.2.1
  have hown := hc.2.2.2.2.1
  have hts := hc.2.2.2.2.2.1
  refine en_F rfl (fun ls hl => ?_)
  have hl : lv_has ls 2 [(0, .ref a0), (1, .int p1)] := hl
  refine lv_iload_n hx hb dX6_append_0 rfl (lv_at hl 1 rfl) ?_
  refine lv_iconst (v := (0 : Int32)) hx hb dX6_append_1 (by decide) ?_
  refine lv_bipush (v := (127 : Int32)) hx hb dX6_append_2 (by decide) ?_
  refine rcSi (As := [.int p1, .int (0 : Int32), .int (127 : Int32)]) (rest := []) hc k_X6_64 (c_X6_in l D C p1 (0 : Int32) (127 : Int32)  _ rfl) ⟨rfl, rfl, Nat.le_of_ble_eq_true rfl, Nat.le_of_ble_eq_true rfl⟩ (hP.sub [] rfl) hK hl rfl rfl (Nat.le_of_ble_eq_true rfl) ⟨Nat.zero_le _, Nat.zero_le _⟩ dX6_append_4 ?_
  refine lv_if_ne (tgt := 13) hx hb dX6_append_7 (by decide) (fun c1 => ?_) (fun c1 => ?_)
  · have hf := if_f hf c1
    refine lv_aload_n hx hb dX6_append_13 rfl (lv_at hl 0 rfl) ?_
    refine va_get (D := D) (ci := 6) (v := .int o_length) (C := RX6) (T := TX6) (N := 24) hx hb hts inX6 hown hK hP 0 rfl rfl 13 (by decide) (hts _ q_667) (fun _ h9 => h9) rfl dX6_append_14 ?_
    refine lv_bipush (v := (100 : Int32)) hx hb dX6_append_17 (by decide) ?_
    refine lv_icmp_ne (tgt := 25) hx hb dX6_append_19 (by decide) (fun c2 => ?_) (fun c2 => ?_)
    · have hf := if_f hf c2
      refine lv_aload_n hx hb dX6_append_25 rfl (lv_at hl 0 rfl) ?_
      refine va_get (D := D) (ci := 6) (v := .ref a7) (C := RX6) (T := TX6) (N := 24) hx hb hts inX6 hown hK hP 0 rfl rfl 12 (by decide) (hts _ q_666) (fun _ h9 => h9) rfl dX6_append_26 ?_
      refine lv_aload_n hx hb dX6_append_29 rfl (lv_at hl 0 rfl) ?_
      refine va_get (D := D) (ci := 6) (v := .int o_length) (C := RX6) (T := TX6) (N := 24) hx hb hts inX6 hown hK hP 0 rfl rfl 13 (by decide) (hts _ q_667) (fun _ h9 => h9) rfl dX6_append_30 ?_
      refine lv_iload_n hx hb dX6_append_33 rfl (lv_at hl 1 rfl) ?_
      obtain ⟨h3, hf⟩ := ok_t hf
      refine va_iast hx hb hK hP hD hS 7 0 rfl rfl (okI_in h3) dX6_append_34 (fun H locs hP hD hS => ?_)
      have hP : va_P D vwCl (wX6 C a0 a1 a2 a3 a4 a5 a6 a7 a8 a9 a10 a11 a12 a13 a14 a15 o_n o_all o_made o_own0 o_own1 o_threatMany o_length o_holes o_tellings o_game o_near o_kept o_isKept o_threatOf o_threatSet (upd o_text o_length.toNatClampNeg p1) o_far o_back o_hole o_isWon o_won o_lasts o_power o_told) H := hP
      have hD : va_D A (wX6 C a0 a1 a2 a3 a4 a5 a6 a7 a8 a9 a10 a11 a12 a13 a14 a15 o_n o_all o_made o_own0 o_own1 o_threatMany o_length o_holes o_tellings o_game o_near o_kept o_isKept o_threatOf o_threatSet (upd o_text o_length.toNatClampNeg p1) o_far o_back o_hole o_isWon o_won o_lasts o_power o_told) := hD
      refine lv_aload_n hx hb dX6_append_35 rfl (lv_at hl 0 rfl) ?_
      refine lv_dup hx hb dX6_append_36 rfl ?_
      refine va_get (D := D) (ci := 6) (v := .int o_length) (C := RX6) (T := TX6) (N := 24) hx hb hts inX6 hown hK hP 0 rfl rfl 13 (by decide) (hts _ q_667) (fun _ h9 => h9) rfl dX6_append_37 ?_
      refine lv_iconst (v := (1 : Int32)) hx hb dX6_append_40 (by decide) ?_
      refine lv_iadd hx hb dX6_append_41 ?_
      refine va_put (D := D) (ci := 6) (v := .int (o_length + (1 : Int32))) (ty := .int) (C := RX6) (T := TX6) (N := 24) hx hb hts inX6 tyX6 tyX6_ok nmX6 hown hK hP hD hS 0 rfl rfl 13 (by decide) (hts _ q_667) (fun _ h9 => h9) rfl (by decide +kernel) rfl rfl (Nat.le_of_ble_eq_true rfl) dX6_append_42 (fun H locs hP hD hS => ?_)
      have hP : va_P D vwCl (wX6 C a0 a1 a2 a3 a4 a5 a6 a7 a8 a9 a10 a11 a12 a13 a14 a15 o_n o_all o_made o_own0 o_own1 o_threatMany (o_length + (1 : Int32)) o_holes o_tellings o_game o_near o_kept o_isKept o_threatOf o_threatSet (upd o_text o_length.toNatClampNeg p1) o_far o_back o_hole o_isWon o_won o_lasts o_power o_told) H := hP
      have hD : va_D A (wX6 C a0 a1 a2 a3 a4 a5 a6 a7 a8 a9 a10 a11 a12 a13 a14 a15 o_n o_all o_made o_own0 o_own1 o_threatMany (o_length + (1 : Int32)) o_holes o_tellings o_game o_near o_kept o_isKept o_threatOf o_threatSet (upd o_text o_length.toNatClampNeg p1) o_far o_back o_hole o_isWon o_won o_lasts o_power o_told) := hD
      refine lv_aload_n hx hb dX6_append_45 rfl (lv_at hl 0 rfl) ?_
      refine va_get (D := D) (ci := 6) (v := .int (o_length + (1 : Int32))) (C := RX6) (T := TX6) (N := 24) hx hb hts inX6 hown hK hP 0 rfl rfl 13 (by decide) (hts _ q_667) (fun _ h9 => h9) rfl dX6_append_46 ?_
      have hf := Option.some.inj hf
      subst hf
      exact rWi hc rfl hP hD hS dX6_append_49
    · have hf := if_t hf c2
      refine lv_bipush (v := (-14 : Int32)) hx hb dX6_append_22 (by decide) ?_
      have hf := Option.some.inj hf
      subst hf
      exact rWi hc rfl hP hD hS dX6_append_24
  · have hf := if_t hf c1
    refine lv_bipush (v := (-12 : Int32)) hx hb dX6_append_10 (by decide) ?_
    have hf := Option.some.inj hf
    subst hf
    exact rWi hc rfl hP hD hS dX6_append_12
abbrev R_X6_clearText : Room := { frames := 0, cells := 0, slots := 0, locals := 0 }
def m_X6_clearText (o_length : Int32) : Int32 × Int32 := (o_length, (0 : Int32))
set_option maxHeartbeats 4000000 in
set_option maxRecDepth 100000 in
theorem c_X6_clearText (l : Launch) (D : va_G) (C : Nat → ClassId) (sz : Nat) (a0 : Nat) (a1 : Nat) (a2 : Nat) (a3 : Nat) (a4 : Nat) (a5 : Nat) (a6 : Nat) (a7 : Nat) (a8 : Nat) (a9 : Nat) (a10 : Nat) (a11 : Nat) (a12 : Nat) (a13 : Nat) (a14 : Nat) (a15 : Nat) (o_n : Int32) (o_all : Int32) (o_made : Int32) (o_own0 : Int64) (o_own1 : Int64) (o_threatMany : Int32) (o_length : Int32) (o_holes : Int32) (o_tellings : Int32) (o_game : Nat → Int32) (o_near : Nat → Int64) (o_kept : Nat → Int32) (o_isKept : Nat → Int32) (o_threatOf : Nat → Int32) (o_threatSet : Nat → Int64) (o_text : Nat → Int32) (o_far : Nat → Int32) (o_back : Nat → Int32) (o_hole : Nat → Int32) (o_isWon : Nat → Int32) (o_won : Nat → Int32) (o_lasts : Nat → Int32) (o_power : Nat → Int32) (o_told : Nat → Int32) (o : Int32 × Int32) (hf : m_X6_clearText o_length = o) : Met l yX6_clearText (wl yX6_clearText cX6_clearText 2 (some .int)) R_X6_clearText (PW [.ref a0] D C sz (wX6 C a0 a1 a2 a3 a4 a5 a6 a7 a8 a9 a10 a11 a12 a13 a14 a15 o_n o_all o_made o_own0 o_own1 o_threatMany o_length o_holes o_tellings o_game o_near o_kept o_isKept o_threatOf o_threatSet o_text o_far o_back o_hole o_isWon o_won o_lasts o_power o_told) ([] : va_W)) (QWi D o.1 (wX6 C a0 a1 a2 a3 a4 a5 a6 a7 a8 a9 a10 a11 a12 a13 a14 a15 o_n o_all o_made o_own0 o_own1 o_threatMany o.2 o_holes o_tellings o_game o_near o_kept o_isKept o_threatOf o_threatSet o_text o_far o_back o_hole o_isWon o_won o_lasts o_power o_told) (va_A (wX6 C a0 a1 a2 a3 a4 a5 a6 a7 a8 a9 a10 a11 a12 a13 a14 a15 o_n o_all o_made o_own0 o_own1 o_threatMany o_length o_holes o_tellings o_game o_near o_kept o_isKept o_threatOf o_threatSet o_text o_far o_back o_hole o_isWon o_won o_lasts o_power o_told) sz)) 0 0 (va_A (wX6 C a0 a1 a2 a3 a4 a5 a6 a7 a8 a9 a10 a11 a12 a13 a14 a15 o_n o_all o_made o_own0 o_own1 o_threatMany o_length o_holes o_tellings o_game o_near o_kept o_isKept o_threatOf o_threatSet o_text o_far o_back o_hole o_isWon o_won o_lasts o_power o_told) sz) := by
  refine Met_ofC (by decide) ?_
  intro p e s m args below meth c hc hv
  obtain ⟨rfl, hsz, hP, hK, hD0, hO, hN0⟩ := hv
  subst hsz
  have hD := hD0.self (sz := s.heap.size)
  have hN : ∀ q ∈ ([] : va_W), ¬ va_A (wX6 C a0 a1 a2 a3 a4 a5 a6 a7 a8 a9 a10 a11 a12 a13 a14 a15 o_n o_all o_made o_own0 o_own1 o_threatMany o_length o_holes o_tellings o_game o_near o_kept o_isKept o_threatOf o_threatSet o_text o_far o_back o_hole o_isWon o_won o_lasts o_power o_told) s.heap.size q.1 := hN0
  generalize hAe : va_A (wX6 C a0 a1 a2 a3 a4 a5 a6 a7 a8 a9 a10 a11 a12 a13 a14 a15 o_n o_all o_made o_own0 o_own1 o_threatMany o_length o_holes o_tellings o_game o_near o_kept o_isKept o_threatOf o_threatSet o_text o_far o_back o_hole o_isWon o_won o_lasts o_power o_told) s.heap.size = A at hD hN ⊢
  have hA : ∀ q : Nat, s.heap.size ≤ q → A q := fun q h => by rw [← hAe]; exact Or.inr h
  have hS : va_S A s.heap s.heap [] := va_S.rf
  have hx := hc.1
  have hb := hc.2.1
  have hown := hc.2.2.2.2.1
  have hts := hc.2.2.2.2.2.1
  refine en_F rfl (fun ls hl => ?_)
  have hl : lv_has ls 2 [(0, .ref a0)] := hl
  refine lv_aload_n hx hb dX6_clearText_0 rfl (lv_at hl 0 rfl) ?_
  refine va_get (D := D) (ci := 6) (v := .int o_length) (C := RX6) (T := TX6) (N := 24) hx hb hts inX6 hown hK hP 0 rfl rfl 13 (by decide) (hts _ q_667) (fun _ h9 => h9) rfl dX6_clearText_1 ?_
  refine lv_istore_n (lv' := [(1, .int o_length), (0, .ref a0)]) hx hb dX6_clearText_4 rfl hl (by decide) rfl (fun ls hl => ?_)
  refine lv_aload_n hx hb dX6_clearText_5 rfl (lv_at hl 1 rfl) ?_
  refine lv_iconst (v := (0 : Int32)) hx hb dX6_clearText_6 (by decide) ?_
  refine va_put (D := D) (ci := 6) (v := .int (0 : Int32)) (ty := .int) (C := RX6) (T := TX6) (N := 24) hx hb hts inX6 tyX6 tyX6_ok nmX6 hown hK hP hD hS 0 rfl rfl 13 (by decide) (hts _ q_667) (fun _ h9 => h9) rfl (by decide +kernel) rfl rfl (Nat.le_of_ble_eq_true rfl) dX6_clearText_7 (fun H locs hP hD hS => ?_)
  have hP : va_P D vwCl (wX6 C a0 a1 a2 a3 a4 a5 a6 a7 a8 a9 a10 a11 a12 a13 a14 a15 o_n o_all o_made o_own0 o_own1 o_threatMany (0 : Int32) o_holes o_tellings o_game o_near o_kept o_isKept o_threatOf o_threatSet o_text o_far o_back o_hole o_isWon o_won o_lasts o_power o_told) H := hP
  have hD : va_D A (wX6 C a0 a1 a2 a3 a4 a5 a6 a7 a8 a9 a10 a11 a12 a13 a14 a15 o_n o_all o_made o_own0 o_own1 o_threatMany (0 : Int32) o_holes o_tellings o_game o_near o_kept o_isKept o_threatOf o_threatSet o_text o_far o_back o_hole o_isWon o_won o_lasts o_power o_told) := hD
  refine lv_iload_n hx hb dX6_clearText_10 rfl (lv_at hl 0 rfl) ?_
  subst hf
  exact rWi hc rfl hP hD hS dX6_clearText_11
abbrev R_X6_faultOf : Room := { frames := 5, cells := 0, slots := 0, locals := 118 }
def m_X6_faultOf_c259  (k19 : Int32 → Int32 → Int64 → Int64 → Int32 → (Nat → Int32) → Option (Int32 × Int64 × Int64 × Int32 × (Nat → Int32))) (v1 : Int32) (v2 : Int32) (v4 : Int32) (o_own0 : Int64) (o_own1 : Int64) (o_tellings : Int32) (o_told : Nat → Int32) : Option (Int32 × Int64 × Int64 × Int32 × (Nat → Int32)) := (if okI o_tellings 64 = true then (k19 v1 v2 o_own0 o_own1 (o_tellings + (1 : Int32)) (upd o_told o_tellings.toNatClampNeg v4)) else none)
set_option maxHeartbeats 4000000 in
set_option maxRecDepth 100000 in
theorem w_X6_faultOf_c259 {p : Program} {l : Launch} {e : Env} {s : State} {m : MethodId} {args : Array Value} {below : List Frame} {meth : Method} {c : Code} {D : va_G} {C : Nat → ClassId} {A : Nat → Prop} {a0 : Nat} {a1 : Nat} {a2 : Nat} {a3 : Nat} {a4 : Nat} {a5 : Nat} {a6 : Nat} {a7 : Nat} {a8 : Nat} {a9 : Nat} {a10 : Nat} {a11 : Nat} {a12 : Nat} {a13 : Nat} {a14 : Nat} {a15 : Nat} {o_n : Int32} {o_all : Int32} {o_made : Int32} {o_threatMany : Int32} {o_length : Int32} {o_holes : Int32} {o_game : Nat → Int32} {o_near : Nat → Int64} {o_kept : Nat → Int32} {o_isKept : Nat → Int32} {o_threatOf : Nat → Int32} {o_threatSet : Nat → Int64} {o_text : Nat → Int32} {o_far : Nat → Int32} {o_back : Nat → Int32} {o_hole : Nat → Int32} {o_isWon : Nat → Int32} {o_won : Nat → Int32} {o_lasts : Nat → Int32} {o_power : Nat → Int32} {o : Int32 × Int64 × Int64 × Int32 × (Nat → Int32)} (hc : Cx p s m args meth c yX6_faultOf cX6_faultOf 5 (some .int)) (hK : va_K D vwCl (TY C) s) (hA : ∀ q : Nat, s.heap.size ≤ q → A q) (hO : va_P D vwCl ([] : va_W) s.heap) (hN : ∀ q ∈ ([] : va_W), ¬ A q.1) (k19 : Int32 → Int32 → Int64 → Int64 → Int32 → (Nat → Int32) → Option (Int32 × Int64 × Int64 × Int32 × (Nat → Int32))) (hk19 : ∀ (v1 : Int32) (v2 : Int32) (o_own0 : Int64) (o_own1 : Int64) (o_tellings : Int32) (o_told : Nat → Int32), k19 v1 v2 o_own0 o_own1 o_tellings o_told = some o → ∀ (H : Heap) (locs : List Loc), va_P D vwCl (wX6 C a0 a1 a2 a3 a4 a5 a6 a7 a8 a9 a10 a11 a12 a13 a14 a15 o_n o_all o_made o_own0 o_own1 o_threatMany o_length o_holes o_tellings o_game o_near o_kept o_isKept o_threatOf o_threatSet o_text o_far o_back o_hole o_isWon o_won o_lasts o_power o_told) H → va_D A (wX6 C a0 a1 a2 a3 a4 a5 a6 a7 a8 a9 a10 a11 a12 a13 a14 a15 o_n o_all o_made o_own0 o_own1 o_threatMany o_length o_holes o_tellings o_game o_near o_kept o_isKept o_threatOf o_threatSet o_text o_far o_back o_hole o_isWon o_won o_lasts o_power o_told) → va_S A s.heap H locs → ∀ (ls : Array Slot), lv_has ls 5 [(0, .ref a0), (1, .int v1), (2, .int v2)] → W p l e R_X6_faultOf s m args below meth c H locs 0 0 (MQ below (QWi D o.1 (wX6 C a0 a1 a2 a3 a4 a5 a6 a7 a8 a9 a10 a11 a12 a13 a14 a15 o_n o_all o_made o.2.1 o.2.2.1 o_threatMany o_length o_holes o.2.2.2.1 o_game o_near o_kept o_isKept o_threatOf o_threatSet o_text o_far o_back o_hole o_isWon o_won o_lasts o_power o.2.2.2.2) A) args s 0 0 A) (F0 m 19 ls [])) : ∀ (v1 : Int32) (v2 : Int32) (v4 : Int32) (o_own0 : Int64) (o_own1 : Int64) (o_tellings : Int32) (o_told : Nat → Int32), m_X6_faultOf_c259  k19 v1 v2 v4 o_own0 o_own1 o_tellings o_told = some o → ∀ (H : Heap) (locs : List Loc), va_P D vwCl (wX6 C a0 a1 a2 a3 a4 a5 a6 a7 a8 a9 a10 a11 a12 a13 a14 a15 o_n o_all o_made o_own0 o_own1 o_threatMany o_length o_holes o_tellings o_game o_near o_kept o_isKept o_threatOf o_threatSet o_text o_far o_back o_hole o_isWon o_won o_lasts o_power o_told) H → va_D A (wX6 C a0 a1 a2 a3 a4 a5 a6 a7 a8 a9 a10 a11 a12 a13 a14 a15 o_n o_all o_made o_own0 o_own1 o_threatMany o_length o_holes o_tellings o_game o_near o_kept o_isKept o_threatOf o_threatSet o_text o_far o_back o_hole o_isWon o_won o_lasts o_power o_told) → va_S A s.heap H locs → ∀ (ls : Array Slot), lv_has ls 5 [(0, .ref a0), (1, .int v1), (2, .int v2), (4, .int v4)] → W p l e R_X6_faultOf s m args below meth c H locs 0 0 (MQ below (QWi D o.1 (wX6 C a0 a1 a2 a3 a4 a5 a6 a7 a8 a9 a10 a11 a12 a13 a14 a15 o_n o_all o_made o.2.1 o.2.2.1 o_threatMany o_length o_holes o.2.2.2.1 o_game o_near o_kept o_isKept o_threatOf o_threatSet o_text o_far o_back o_hole o_isWon o_won o_lasts o_power o.2.2.2.2) A) args s 0 0 A) (F0 m 259 ls []) := by
  have hx := hc.1
  have hb := hc.2.1
  have hown := hc.2.2.2.2.1
  have hts := hc.2.2.2.2.2.1
  intro v1 v2 v4 o_own0 o_own1 o_tellings o_told hf H locs hP hD hS ls hl
  refine lv_aload_n hx hb dX6_faultOf_259 rfl (lv_at hl 0 rfl) ?_
  refine va_get (D := D) (ci := 6) (v := .ref a15) (C := RX6) (T := TX6) (N := 24) hx hb hts inX6 hown hK hP 0 rfl rfl 22 (by decide) (hts _ q_676) (fun _ h9 => h9) rfl dX6_faultOf_260 ?_
  refine lv_aload_n hx hb dX6_faultOf_263 rfl (lv_at hl 0 rfl) ?_
  refine va_get (D := D) (ci := 6) (v := .int o_tellings) (C := RX6) (T := TX6) (N := 24) hx hb hts inX6 hown hK hP 0 rfl rfl 23 (by decide) (hts _ q_677) (fun _ h9 => h9) rfl dX6_faultOf_264 ?_
  refine lv_iload hx hb dX6_faultOf_267 (lv_at hl 3 rfl) ?_
  obtain ⟨h16, hf⟩ := ok_t hf
  refine va_iast hx hb hK hP hD hS 15 0 rfl rfl (okI_in h16) dX6_faultOf_269 (fun H locs hP hD hS => ?_)
  have hP : va_P D vwCl (wX6 C a0 a1 a2 a3 a4 a5 a6 a7 a8 a9 a10 a11 a12 a13 a14 a15 o_n o_all o_made o_own0 o_own1 o_threatMany o_length o_holes o_tellings o_game o_near o_kept o_isKept o_threatOf o_threatSet o_text o_far o_back o_hole o_isWon o_won o_lasts o_power (upd o_told o_tellings.toNatClampNeg v4)) H := hP
  have hD : va_D A (wX6 C a0 a1 a2 a3 a4 a5 a6 a7 a8 a9 a10 a11 a12 a13 a14 a15 o_n o_all o_made o_own0 o_own1 o_threatMany o_length o_holes o_tellings o_game o_near o_kept o_isKept o_threatOf o_threatSet o_text o_far o_back o_hole o_isWon o_won o_lasts o_power (upd o_told o_tellings.toNatClampNeg v4)) := hD
  refine lv_aload_n hx hb dX6_faultOf_270 rfl (lv_at hl 0 rfl) ?_
  refine lv_dup hx hb dX6_faultOf_271 rfl ?_
  refine va_get (D := D) (ci := 6) (v := .int o_tellings) (C := RX6) (T := TX6) (N := 24) hx hb hts inX6 hown hK hP 0 rfl rfl 23 (by decide) (hts _ q_677) (fun _ h9 => h9) rfl dX6_faultOf_272 ?_
  refine lv_iconst (v := (1 : Int32)) hx hb dX6_faultOf_275 (by decide) ?_
  refine lv_iadd hx hb dX6_faultOf_276 ?_
  refine va_put (D := D) (ci := 6) (v := .int (o_tellings + (1 : Int32))) (ty := .int) (C := RX6) (T := TX6) (N := 24) hx hb hts inX6 tyX6 tyX6_ok nmX6 hown hK hP hD hS 0 rfl rfl 23 (by decide) (hts _ q_677) (fun _ h9 => h9) rfl (by decide +kernel) rfl rfl (Nat.le_of_ble_eq_true rfl) dX6_faultOf_277 (fun H locs hP hD hS => ?_)
  have hP : va_P D vwCl (wX6 C a0 a1 a2 a3 a4 a5 a6 a7 a8 a9 a10 a11 a12 a13 a14 a15 o_n o_all o_made o_own0 o_own1 o_threatMany o_length o_holes (o_tellings + (1 : Int32)) o_game o_near o_kept o_isKept o_threatOf o_threatSet o_text o_far o_back o_hole o_isWon o_won o_lasts o_power (upd o_told o_tellings.toNatClampNeg v4)) H := hP
  have hD : va_D A (wX6 C a0 a1 a2 a3 a4 a5 a6 a7 a8 a9 a10 a11 a12 a13 a14 a15 o_n o_all o_made o_own0 o_own1 o_threatMany o_length o_holes (o_tellings + (1 : Int32)) o_game o_near o_kept o_isKept o_threatOf o_threatSet o_text o_far o_back o_hole o_isWon o_won o_lasts o_power (upd o_told o_tellings.toNatClampNeg v4)) := hD
  refine lv_goto (tgt := 19) hx hb dX6_faultOf_280 (by decide) ?_
  exact hk19 v1 v2 o_own0 o_own1 (o_tellings + (1 : Int32)) (upd o_told o_tellings.toNatClampNeg v4) hf _ _ hP hD hS ls (lv_sub hl [0, 1, 2] rfl)
def m_X6_faultOf_c255  (k19 : Int32 → Int32 → Int64 → Int64 → Int32 → (Nat → Int32) → Option (Int32 × Int64 × Int64 × Int32 × (Nat → Int32))) (v1 : Int32) (v2 : Int32) (v4 : Int32) (t0 : Int64) (t1 : Int64) (o_own0 : Int64) (o_own1 : Int64) (o_tellings : Int32) (o_told : Nat → Int32) : Option (Int32 × Int64 × Int64 × Int32 × (Nat → Int32)) := (m_X6_faultOf_c259 k19 v1 v2 v4 o_own0 (t1 ||| t0) o_tellings o_told)
set_option maxHeartbeats 4000000 in
set_option maxRecDepth 100000 in
theorem w_X6_faultOf_c255 {p : Program} {l : Launch} {e : Env} {s : State} {m : MethodId} {args : Array Value} {below : List Frame} {meth : Method} {c : Code} {D : va_G} {C : Nat → ClassId} {A : Nat → Prop} {a0 : Nat} {a1 : Nat} {a2 : Nat} {a3 : Nat} {a4 : Nat} {a5 : Nat} {a6 : Nat} {a7 : Nat} {a8 : Nat} {a9 : Nat} {a10 : Nat} {a11 : Nat} {a12 : Nat} {a13 : Nat} {a14 : Nat} {a15 : Nat} {o_n : Int32} {o_all : Int32} {o_made : Int32} {o_threatMany : Int32} {o_length : Int32} {o_holes : Int32} {o_game : Nat → Int32} {o_near : Nat → Int64} {o_kept : Nat → Int32} {o_isKept : Nat → Int32} {o_threatOf : Nat → Int32} {o_threatSet : Nat → Int64} {o_text : Nat → Int32} {o_far : Nat → Int32} {o_back : Nat → Int32} {o_hole : Nat → Int32} {o_isWon : Nat → Int32} {o_won : Nat → Int32} {o_lasts : Nat → Int32} {o_power : Nat → Int32} {o : Int32 × Int64 × Int64 × Int32 × (Nat → Int32)} (hc : Cx p s m args meth c yX6_faultOf cX6_faultOf 5 (some .int)) (hK : va_K D vwCl (TY C) s) (hA : ∀ q : Nat, s.heap.size ≤ q → A q) (hO : va_P D vwCl ([] : va_W) s.heap) (hN : ∀ q ∈ ([] : va_W), ¬ A q.1) (k19 : Int32 → Int32 → Int64 → Int64 → Int32 → (Nat → Int32) → Option (Int32 × Int64 × Int64 × Int32 × (Nat → Int32))) (hk19 : ∀ (v1 : Int32) (v2 : Int32) (o_own0 : Int64) (o_own1 : Int64) (o_tellings : Int32) (o_told : Nat → Int32), k19 v1 v2 o_own0 o_own1 o_tellings o_told = some o → ∀ (H : Heap) (locs : List Loc), va_P D vwCl (wX6 C a0 a1 a2 a3 a4 a5 a6 a7 a8 a9 a10 a11 a12 a13 a14 a15 o_n o_all o_made o_own0 o_own1 o_threatMany o_length o_holes o_tellings o_game o_near o_kept o_isKept o_threatOf o_threatSet o_text o_far o_back o_hole o_isWon o_won o_lasts o_power o_told) H → va_D A (wX6 C a0 a1 a2 a3 a4 a5 a6 a7 a8 a9 a10 a11 a12 a13 a14 a15 o_n o_all o_made o_own0 o_own1 o_threatMany o_length o_holes o_tellings o_game o_near o_kept o_isKept o_threatOf o_threatSet o_text o_far o_back o_hole o_isWon o_won o_lasts o_power o_told) → va_S A s.heap H locs → ∀ (ls : Array Slot), lv_has ls 5 [(0, .ref a0), (1, .int v1), (2, .int v2)] → W p l e R_X6_faultOf s m args below meth c H locs 0 0 (MQ below (QWi D o.1 (wX6 C a0 a1 a2 a3 a4 a5 a6 a7 a8 a9 a10 a11 a12 a13 a14 a15 o_n o_all o_made o.2.1 o.2.2.1 o_threatMany o_length o_holes o.2.2.2.1 o_game o_near o_kept o_isKept o_threatOf o_threatSet o_text o_far o_back o_hole o_isWon o_won o_lasts o_power o.2.2.2.2) A) args s 0 0 A) (F0 m 19 ls [])) : ∀ (v1 : Int32) (v2 : Int32) (v4 : Int32) (t0 : Int64) (t1 : Int64) (o_own0 : Int64) (o_own1 : Int64) (o_tellings : Int32) (o_told : Nat → Int32), m_X6_faultOf_c255  k19 v1 v2 v4 t0 t1 o_own0 o_own1 o_tellings o_told = some o → ∀ (H : Heap) (locs : List Loc), va_P D vwCl (wX6 C a0 a1 a2 a3 a4 a5 a6 a7 a8 a9 a10 a11 a12 a13 a14 a15 o_n o_all o_made o_own0 o_own1 o_threatMany o_length o_holes o_tellings o_game o_near o_kept o_isKept o_threatOf o_threatSet o_text o_far o_back o_hole o_isWon o_won o_lasts o_power o_told) H → va_D A (wX6 C a0 a1 a2 a3 a4 a5 a6 a7 a8 a9 a10 a11 a12 a13 a14 a15 o_n o_all o_made o_own0 o_own1 o_threatMany o_length o_holes o_tellings o_game o_near o_kept o_isKept o_threatOf o_threatSet o_text o_far o_back o_hole o_isWon o_won o_lasts o_power o_told) → va_S A s.heap H locs → ∀ (ls : Array Slot), lv_has ls 5 [(0, .ref a0), (1, .int v1), (2, .int v2), (4, .int v4)] → W p l e R_X6_faultOf s m args below meth c H locs 0 0 (MQ below (QWi D o.1 (wX6 C a0 a1 a2 a3 a4 a5 a6 a7 a8 a9 a10 a11 a12 a13 a14 a15 o_n o_all o_made o.2.1 o.2.2.1 o_threatMany o_length o_holes o.2.2.2.1 o_game o_near o_kept o_isKept o_threatOf o_threatSet o_text o_far o_back o_hole o_isWon o_won o_lasts o_power o.2.2.2.2) A) args s 0 0 A) (F0 m 255 ls [.long t0, .long t1, .ref a0]) := by
  have hx := hc.1
  have hb := hc.2.1
  have hown := hc.2.2.2.2.1
  have hts := hc.2.2.2.2.2.1
  intro v1 v2 v4 t0 t1 o_own0 o_own1 o_tellings o_told hf H locs hP hD hS ls hl
  refine lv_lor hx hb dX6_faultOf_255 ?_
  refine va_put (D := D) (ci := 6) (v := .long (t1 ||| t0)) (ty := .long) (C := RX6) (T := TX6) (N := 24) hx hb hts inX6 tyX6 tyX6_ok nmX6 hown hK hP hD hS 0 rfl rfl 5 (by decide) (hts _ q_659) (fun _ h9 => h9) rfl (by decide +kernel) rfl rfl (Nat.le_of_ble_eq_true rfl) dX6_faultOf_256 (fun H locs hP hD hS => ?_)
  have hP : va_P D vwCl (wX6 C a0 a1 a2 a3 a4 a5 a6 a7 a8 a9 a10 a11 a12 a13 a14 a15 o_n o_all o_made o_own0 (t1 ||| t0) o_threatMany o_length o_holes o_tellings o_game o_near o_kept o_isKept o_threatOf o_threatSet o_text o_far o_back o_hole o_isWon o_won o_lasts o_power o_told) H := hP
  have hD : va_D A (wX6 C a0 a1 a2 a3 a4 a5 a6 a7 a8 a9 a10 a11 a12 a13 a14 a15 o_n o_all o_made o_own0 (t1 ||| t0) o_threatMany o_length o_holes o_tellings o_game o_near o_kept o_isKept o_threatOf o_threatSet o_text o_far o_back o_hole o_isWon o_won o_lasts o_power o_told) := hD
  exact w_X6_faultOf_c259 hc hK hA hO hN k19 hk19 v1 v2 v4 o_own0 (t1 ||| t0) o_tellings o_told hf _ _ hP hD hS ls (lv_sub hl [0, 1, 2, 3] rfl)
def m_X6_faultOf_c228  (k19 : Int32 → Int32 → Int64 → Int64 → Int32 → (Nat → Int32) → Option (Int32 × Int64 × Int64 × Int32 × (Nat → Int32))) (v1 : Int32) (v2 : Int32) (v4 : Int32) (t0 : Int64) (t1 : Int64) (o_own0 : Int64) (o_own1 : Int64) (o_tellings : Int32) (o_told : Nat → Int32) : Option (Int32 × Int64 × Int64 × Int32 × (Nat → Int32)) := (if (jirem o_tellings (2 : Int32)) = (1 : Int32) then (m_X6_faultOf_c255 k19 v1 v2 v4 (jshl (1 : Int64) v4) o_own1 (t1 ||| t0) o_own1 o_tellings o_told) else (m_X6_faultOf_c255 k19 v1 v2 v4 (0 : Int64) o_own1 (t1 ||| t0) o_own1 o_tellings o_told))
set_option maxHeartbeats 4000000 in
set_option maxRecDepth 100000 in
theorem w_X6_faultOf_c228 {p : Program} {l : Launch} {e : Env} {s : State} {m : MethodId} {args : Array Value} {below : List Frame} {meth : Method} {c : Code} {D : va_G} {C : Nat → ClassId} {A : Nat → Prop} {a0 : Nat} {a1 : Nat} {a2 : Nat} {a3 : Nat} {a4 : Nat} {a5 : Nat} {a6 : Nat} {a7 : Nat} {a8 : Nat} {a9 : Nat} {a10 : Nat} {a11 : Nat} {a12 : Nat} {a13 : Nat} {a14 : Nat} {a15 : Nat} {o_n : Int32} {o_all : Int32} {o_made : Int32} {o_threatMany : Int32} {o_length : Int32} {o_holes : Int32} {o_game : Nat → Int32} {o_near : Nat → Int64} {o_kept : Nat → Int32} {o_isKept : Nat → Int32} {o_threatOf : Nat → Int32} {o_threatSet : Nat → Int64} {o_text : Nat → Int32} {o_far : Nat → Int32} {o_back : Nat → Int32} {o_hole : Nat → Int32} {o_isWon : Nat → Int32} {o_won : Nat → Int32} {o_lasts : Nat → Int32} {o_power : Nat → Int32} {o : Int32 × Int64 × Int64 × Int32 × (Nat → Int32)} (hc : Cx p s m args meth c yX6_faultOf cX6_faultOf 5 (some .int)) (hK : va_K D vwCl (TY C) s) (hA : ∀ q : Nat, s.heap.size ≤ q → A q) (hO : va_P D vwCl ([] : va_W) s.heap) (hN : ∀ q ∈ ([] : va_W), ¬ A q.1) (k19 : Int32 → Int32 → Int64 → Int64 → Int32 → (Nat → Int32) → Option (Int32 × Int64 × Int64 × Int32 × (Nat → Int32))) (hk19 : ∀ (v1 : Int32) (v2 : Int32) (o_own0 : Int64) (o_own1 : Int64) (o_tellings : Int32) (o_told : Nat → Int32), k19 v1 v2 o_own0 o_own1 o_tellings o_told = some o → ∀ (H : Heap) (locs : List Loc), va_P D vwCl (wX6 C a0 a1 a2 a3 a4 a5 a6 a7 a8 a9 a10 a11 a12 a13 a14 a15 o_n o_all o_made o_own0 o_own1 o_threatMany o_length o_holes o_tellings o_game o_near o_kept o_isKept o_threatOf o_threatSet o_text o_far o_back o_hole o_isWon o_won o_lasts o_power o_told) H → va_D A (wX6 C a0 a1 a2 a3 a4 a5 a6 a7 a8 a9 a10 a11 a12 a13 a14 a15 o_n o_all o_made o_own0 o_own1 o_threatMany o_length o_holes o_tellings o_game o_near o_kept o_isKept o_threatOf o_threatSet o_text o_far o_back o_hole o_isWon o_won o_lasts o_power o_told) → va_S A s.heap H locs → ∀ (ls : Array Slot), lv_has ls 5 [(0, .ref a0), (1, .int v1), (2, .int v2)] → W p l e R_X6_faultOf s m args below meth c H locs 0 0 (MQ below (QWi D o.1 (wX6 C a0 a1 a2 a3 a4 a5 a6 a7 a8 a9 a10 a11 a12 a13 a14 a15 o_n o_all o_made o.2.1 o.2.2.1 o_threatMany o_length o_holes o.2.2.2.1 o_game o_near o_kept o_isKept o_threatOf o_threatSet o_text o_far o_back o_hole o_isWon o_won o_lasts o_power o.2.2.2.2) A) args s 0 0 A) (F0 m 19 ls [])) : ∀ (v1 : Int32) (v2 : Int32) (v4 : Int32) (t0 : Int64) (t1 : Int64) (o_own0 : Int64) (o_own1 : Int64) (o_tellings : Int32) (o_told : Nat → Int32), m_X6_faultOf_c228  k19 v1 v2 v4 t0 t1 o_own0 o_own1 o_tellings o_told = some o → ∀ (H : Heap) (locs : List Loc), va_P D vwCl (wX6 C a0 a1 a2 a3 a4 a5 a6 a7 a8 a9 a10 a11 a12 a13 a14 a15 o_n o_all o_made o_own0 o_own1 o_threatMany o_length o_holes o_tellings o_game o_near o_kept o_isKept o_threatOf o_threatSet o_text o_far o_back o_hole o_isWon o_won o_lasts o_power o_told) H → va_D A (wX6 C a0 a1 a2 a3 a4 a5 a6 a7 a8 a9 a10 a11 a12 a13 a14 a15 o_n o_all o_made o_own0 o_own1 o_threatMany o_length o_holes o_tellings o_game o_near o_kept o_isKept o_threatOf o_threatSet o_text o_far o_back o_hole o_isWon o_won o_lasts o_power o_told) → va_S A s.heap H locs → ∀ (ls : Array Slot), lv_has ls 5 [(0, .ref a0), (1, .int v1), (2, .int v2), (4, .int v4)] → W p l e R_X6_faultOf s m args below meth c H locs 0 0 (MQ below (QWi D o.1 (wX6 C a0 a1 a2 a3 a4 a5 a6 a7 a8 a9 a10 a11 a12 a13 a14 a15 o_n o_all o_made o.2.1 o.2.2.1 o_threatMany o_length o_holes o.2.2.2.1 o_game o_near o_kept o_isKept o_threatOf o_threatSet o_text o_far o_back o_hole o_isWon o_won o_lasts o_power o.2.2.2.2) A) args s 0 0 A) (F0 m 228 ls [.long t0, .long t1, .ref a0]) := by
  have hx := hc.1
  have hb := hc.2.1
  have hown := hc.2.2.2.2.1
  have hts := hc.2.2.2.2.2.1
  intro v1 v2 v4 t0 t1 o_own0 o_own1 o_tellings o_told hf H locs hP hD hS ls hl
  refine lv_lor hx hb dX6_faultOf_228 ?_
  refine va_put (D := D) (ci := 6) (v := .long (t1 ||| t0)) (ty := .long) (C := RX6) (T := TX6) (N := 24) hx hb hts inX6 tyX6 tyX6_ok nmX6 hown hK hP hD hS 0 rfl rfl 4 (by decide) (hts _ q_658) (fun _ h9 => h9) rfl (by decide +kernel) rfl rfl (Nat.le_of_ble_eq_true rfl) dX6_faultOf_229 (fun H locs hP hD hS => ?_)
  have hP : va_P D vwCl (wX6 C a0 a1 a2 a3 a4 a5 a6 a7 a8 a9 a10 a11 a12 a13 a14 a15 o_n o_all o_made (t1 ||| t0) o_own1 o_threatMany o_length o_holes o_tellings o_game o_near o_kept o_isKept o_threatOf o_threatSet o_text o_far o_back o_hole o_isWon o_won o_lasts o_power o_told) H := hP
  have hD : va_D A (wX6 C a0 a1 a2 a3 a4 a5 a6 a7 a8 a9 a10 a11 a12 a13 a14 a15 o_n o_all o_made (t1 ||| t0) o_own1 o_threatMany o_length o_holes o_tellings o_game o_near o_kept o_isKept o_threatOf o_threatSet o_text o_far o_back o_hole o_isWon o_won o_lasts o_power o_told) := hD
  refine lv_aload_n hx hb dX6_faultOf_232 rfl (lv_at hl 0 rfl) ?_
  refine lv_dup hx hb dX6_faultOf_233 rfl ?_
  refine va_get (D := D) (ci := 6) (v := .long o_own1) (C := RX6) (T := TX6) (N := 24) hx hb hts inX6 hown hK hP 0 rfl rfl 5 (by decide) (hts _ q_659) (fun _ h9 => h9) rfl dX6_faultOf_234 ?_
  refine lv_aload_n hx hb dX6_faultOf_237 rfl (lv_at hl 0 rfl) ?_
  refine va_get (D := D) (ci := 6) (v := .int o_tellings) (C := RX6) (T := TX6) (N := 24) hx hb hts inX6 hown hK hP 0 rfl rfl 23 (by decide) (hts _ q_677) (fun _ h9 => h9) rfl dX6_faultOf_238 ?_
  refine lv_iconst (v := (2 : Int32)) hx hb dX6_faultOf_241 (by decide) ?_
  refine lv_irem hx hb dX6_faultOf_242 (by decide) ?_
  refine lv_iconst (v := (1 : Int32)) hx hb dX6_faultOf_243 (by decide) ?_
  refine lv_icmp_ne (tgt := 254) hx hb dX6_faultOf_244 (by decide) (fun c15 => ?_) (fun c15 => ?_)
  · have hf := if_f hf c15
    refine lv_lconst (v := (0 : Int64)) hx hb dX6_faultOf_254 (by decide) ?_
    exact w_X6_faultOf_c255 hc hK hA hO hN k19 hk19 v1 v2 v4 (0 : Int64) o_own1 (t1 ||| t0) o_own1 o_tellings o_told hf _ _ hP hD hS ls (lv_sub hl [0, 1, 2, 3] rfl)
  · have hf := if_t hf c15
    refine lv_lconst (v := (1 : Int64)) hx hb dX6_faultOf_247 (by decide) ?_
    refine lv_iload hx hb dX6_faultOf_248 (lv_at hl 3 rfl) ?_
    refine lv_lshl (v := (jshl (1 : Int64) v4)) hx hb dX6_faultOf_250 rfl ?_
    refine lv_goto (tgt := 255) hx hb dX6_faultOf_251 (by decide) ?_
    exact w_X6_faultOf_c255 hc hK hA hO hN k19 hk19 v1 v2 v4 (jshl (1 : Int64) v4) o_own1 (t1 ||| t0) o_own1 o_tellings o_told hf _ _ hP hD hS ls (lv_sub hl [0, 1, 2, 3] rfl)
def m_X6_faultOf_c205  (k19 : Int32 → Int32 → Int64 → Int64 → Int32 → (Nat → Int32) → Option (Int32 × Int64 × Int64 × Int32 × (Nat → Int32))) (v1 : Int32) (v4 : Int32) (t0 : Int32) (o_own0 : Int64) (o_own1 : Int64) (o_tellings : Int32) (o_told : Nat → Int32) : Option (Int32 × Int64 × Int64 × Int32 × (Nat → Int32)) := (if (jirem o_tellings (2 : Int32)) = 0 then (m_X6_faultOf_c228 k19 v1 t0 v4 (jshl (1 : Int64) v4) o_own0 o_own0 o_own1 o_tellings o_told) else (m_X6_faultOf_c228 k19 v1 t0 v4 (0 : Int64) o_own0 o_own0 o_own1 o_tellings o_told))
set_option maxHeartbeats 4000000 in
set_option maxRecDepth 100000 in
theorem w_X6_faultOf_c205 {p : Program} {l : Launch} {e : Env} {s : State} {m : MethodId} {args : Array Value} {below : List Frame} {meth : Method} {c : Code} {D : va_G} {C : Nat → ClassId} {A : Nat → Prop} {a0 : Nat} {a1 : Nat} {a2 : Nat} {a3 : Nat} {a4 : Nat} {a5 : Nat} {a6 : Nat} {a7 : Nat} {a8 : Nat} {a9 : Nat} {a10 : Nat} {a11 : Nat} {a12 : Nat} {a13 : Nat} {a14 : Nat} {a15 : Nat} {o_n : Int32} {o_all : Int32} {o_made : Int32} {o_threatMany : Int32} {o_length : Int32} {o_holes : Int32} {o_game : Nat → Int32} {o_near : Nat → Int64} {o_kept : Nat → Int32} {o_isKept : Nat → Int32} {o_threatOf : Nat → Int32} {o_threatSet : Nat → Int64} {o_text : Nat → Int32} {o_far : Nat → Int32} {o_back : Nat → Int32} {o_hole : Nat → Int32} {o_isWon : Nat → Int32} {o_won : Nat → Int32} {o_lasts : Nat → Int32} {o_power : Nat → Int32} {o : Int32 × Int64 × Int64 × Int32 × (Nat → Int32)} (hc : Cx p s m args meth c yX6_faultOf cX6_faultOf 5 (some .int)) (hK : va_K D vwCl (TY C) s) (hA : ∀ q : Nat, s.heap.size ≤ q → A q) (hO : va_P D vwCl ([] : va_W) s.heap) (hN : ∀ q ∈ ([] : va_W), ¬ A q.1) (k19 : Int32 → Int32 → Int64 → Int64 → Int32 → (Nat → Int32) → Option (Int32 × Int64 × Int64 × Int32 × (Nat → Int32))) (hk19 : ∀ (v1 : Int32) (v2 : Int32) (o_own0 : Int64) (o_own1 : Int64) (o_tellings : Int32) (o_told : Nat → Int32), k19 v1 v2 o_own0 o_own1 o_tellings o_told = some o → ∀ (H : Heap) (locs : List Loc), va_P D vwCl (wX6 C a0 a1 a2 a3 a4 a5 a6 a7 a8 a9 a10 a11 a12 a13 a14 a15 o_n o_all o_made o_own0 o_own1 o_threatMany o_length o_holes o_tellings o_game o_near o_kept o_isKept o_threatOf o_threatSet o_text o_far o_back o_hole o_isWon o_won o_lasts o_power o_told) H → va_D A (wX6 C a0 a1 a2 a3 a4 a5 a6 a7 a8 a9 a10 a11 a12 a13 a14 a15 o_n o_all o_made o_own0 o_own1 o_threatMany o_length o_holes o_tellings o_game o_near o_kept o_isKept o_threatOf o_threatSet o_text o_far o_back o_hole o_isWon o_won o_lasts o_power o_told) → va_S A s.heap H locs → ∀ (ls : Array Slot), lv_has ls 5 [(0, .ref a0), (1, .int v1), (2, .int v2)] → W p l e R_X6_faultOf s m args below meth c H locs 0 0 (MQ below (QWi D o.1 (wX6 C a0 a1 a2 a3 a4 a5 a6 a7 a8 a9 a10 a11 a12 a13 a14 a15 o_n o_all o_made o.2.1 o.2.2.1 o_threatMany o_length o_holes o.2.2.2.1 o_game o_near o_kept o_isKept o_threatOf o_threatSet o_text o_far o_back o_hole o_isWon o_won o_lasts o_power o.2.2.2.2) A) args s 0 0 A) (F0 m 19 ls [])) : ∀ (v1 : Int32) (v4 : Int32) (t0 : Int32) (o_own0 : Int64) (o_own1 : Int64) (o_tellings : Int32) (o_told : Nat → Int32), m_X6_faultOf_c205  k19 v1 v4 t0 o_own0 o_own1 o_tellings o_told = some o → ∀ (H : Heap) (locs : List Loc), va_P D vwCl (wX6 C a0 a1 a2 a3 a4 a5 a6 a7 a8 a9 a10 a11 a12 a13 a14 a15 o_n o_all o_made o_own0 o_own1 o_threatMany o_length o_holes o_tellings o_game o_near o_kept o_isKept o_threatOf o_threatSet o_text o_far o_back o_hole o_isWon o_won o_lasts o_power o_told) H → va_D A (wX6 C a0 a1 a2 a3 a4 a5 a6 a7 a8 a9 a10 a11 a12 a13 a14 a15 o_n o_all o_made o_own0 o_own1 o_threatMany o_length o_holes o_tellings o_game o_near o_kept o_isKept o_threatOf o_threatSet o_text o_far o_back o_hole o_isWon o_won o_lasts o_power o_told) → va_S A s.heap H locs → ∀ (ls : Array Slot), lv_has ls 5 [(0, .ref a0), (1, .int v1), (4, .int v4)] → W p l e R_X6_faultOf s m args below meth c H locs 0 0 (MQ below (QWi D o.1 (wX6 C a0 a1 a2 a3 a4 a5 a6 a7 a8 a9 a10 a11 a12 a13 a14 a15 o_n o_all o_made o.2.1 o.2.2.1 o_threatMany o_length o_holes o.2.2.2.1 o_game o_near o_kept o_isKept o_threatOf o_threatSet o_text o_far o_back o_hole o_isWon o_won o_lasts o_power o.2.2.2.2) A) args s 0 0 A) (F0 m 205 ls [.int t0]) := by
  have hx := hc.1
  have hb := hc.2.1
  have hown := hc.2.2.2.2.1
  have hts := hc.2.2.2.2.2.1
  intro v1 v4 t0 o_own0 o_own1 o_tellings o_told hf H locs hP hD hS ls hl
  refine lv_istore_n (lv' := [(2, .int t0), (0, .ref a0), (1, .int v1), (4, .int v4)]) hx hb dX6_faultOf_205 rfl hl (by decide) rfl (fun ls hl => ?_)
  refine lv_aload_n hx hb dX6_faultOf_206 rfl (lv_at hl 1 rfl) ?_
  refine lv_dup hx hb dX6_faultOf_207 rfl ?_
  refine va_get (D := D) (ci := 6) (v := .long o_own0) (C := RX6) (T := TX6) (N := 24) hx hb hts inX6 hown hK hP 0 rfl rfl 4 (by decide) (hts _ q_658) (fun _ h9 => h9) rfl dX6_faultOf_208 ?_
  refine lv_aload_n hx hb dX6_faultOf_211 rfl (lv_at hl 1 rfl) ?_
  refine va_get (D := D) (ci := 6) (v := .int o_tellings) (C := RX6) (T := TX6) (N := 24) hx hb hts inX6 hown hK hP 0 rfl rfl 23 (by decide) (hts _ q_677) (fun _ h9 => h9) rfl dX6_faultOf_212 ?_
  refine lv_iconst (v := (2 : Int32)) hx hb dX6_faultOf_215 (by decide) ?_
  refine lv_irem hx hb dX6_faultOf_216 (by decide) ?_
  refine lv_if_ne (tgt := 227) hx hb dX6_faultOf_217 (by decide) (fun c14 => ?_) (fun c14 => ?_)
  · have hf := if_f hf c14
    refine lv_lconst (v := (0 : Int64)) hx hb dX6_faultOf_227 (by decide) ?_
    exact w_X6_faultOf_c228 hc hK hA hO hN k19 hk19 v1 t0 v4 (0 : Int64) o_own0 o_own0 o_own1 o_tellings o_told hf _ _ hP hD hS ls (lv_sub hl [1, 2, 0, 3] rfl)
  · have hf := if_t hf c14
    refine lv_lconst (v := (1 : Int64)) hx hb dX6_faultOf_220 (by decide) ?_
    refine lv_iload hx hb dX6_faultOf_221 (lv_at hl 3 rfl) ?_
    refine lv_lshl (v := (jshl (1 : Int64) v4)) hx hb dX6_faultOf_223 rfl ?_
    refine lv_goto (tgt := 228) hx hb dX6_faultOf_224 (by decide) ?_
    exact w_X6_faultOf_c228 hc hK hA hO hN k19 hk19 v1 t0 v4 (jshl (1 : Int64) v4) o_own0 o_own0 o_own1 o_tellings o_told hf _ _ hP hD hS ls (lv_sub hl [1, 2, 0, 3] rfl)
def m_X6_faultOf_c19 (o_n : Int32) (o_length : Int32) (o_near : Nat → Int64) (o_text : Nat → Int32)  : Nat → Int32 → Int32 → Int64 → Int64 → Int32 → (Nat → Int32) → Option (Int32 × Int64 × Int64 × Int32 × (Nat → Int32))
  | 0, _, _, _, _, _, _ => none
  | n + 1, v1, v2, o_own0, o_own1, o_tellings, o_told => (if o_length ≤ v1 then some ((-1 : Int32), o_own0, o_own1, o_tellings, o_told) else (if okI v1 100 = true then ((m_X6_winnerNow o_n o_own0 o_own1 o_near).bind fun u3 => (if u3 = (-15 : Int32) then (if (o_text v1.toNatClampNeg) = (83 : Int32) then (if o_tellings = (1 : Int32) then (if o_n = 0 then none else (if o_n = 0 then none else (m_X6_faultOf_c259 (m_X6_faultOf_c19 o_n o_length o_near o_text  n) (v1 + (1 : Int32)) v2 (-16 : Int32) (0 : Int64) (jshl (1 : Int64) (((jirem v2 o_n) * o_n) + (v2 / o_n))) o_tellings o_told))) else some (v1, o_own0, o_own1, o_tellings, o_told)) else (if (m_X6_in ((o_text v1.toNatClampNeg) - (97 : Int32)) (0 : Int32) (o_n - (1 : Int32))) = 0 then some (v1, o_own0, o_own1, o_tellings, o_told) else (if (v1 + (1 : Int32)) = o_length then some ((v1 + (1 : Int32)), o_own0, o_own1, o_tellings, o_told) else (if okI (v1 + (1 : Int32)) 100 = true then (if (m_X6_in ((o_text (v1 + (1 : Int32)).toNatClampNeg) - (49 : Int32)) (0 : Int32) (o_n - (1 : Int32))) = 0 then some ((v1 + (1 : Int32)), o_own0, o_own1, o_tellings, o_told) else (if okI (v1 + (1 : Int32)) 100 = true then (jlet (((((o_text (v1 + (1 : Int32)).toNatClampNeg) - (49 : Int32)) * o_n) + (o_text v1.toNatClampNeg)) - (97 : Int32)) fun x11 => (if (m_X6_has (m_X6_free o_n o_own0 o_own1) x11) = 0 then some ((v1 + (1 : Int32)), o_own0, o_own1, o_tellings, o_told) else (if o_tellings = 0 then (m_X6_faultOf_c205 (m_X6_faultOf_c19 o_n o_length o_near o_text  n) ((v1 + (1 : Int32)) + (1 : Int32)) x11 x11 o_own0 o_own1 o_tellings o_told) else (m_X6_faultOf_c205 (m_X6_faultOf_c19 o_n o_length o_near o_text  n) ((v1 + (1 : Int32)) + (1 : Int32)) x11 v2 o_own0 o_own1 o_tellings o_told)))) else none)) else none)))) else some (v1, o_own0, o_own1, o_tellings, o_told))) else none))
set_option maxHeartbeats 4000000 in
set_option maxRecDepth 100000 in
theorem w_X6_faultOf_c19 {p : Program} {l : Launch} {e : Env} {s : State} {m : MethodId} {args : Array Value} {below : List Frame} {meth : Method} {c : Code} {D : va_G} {C : Nat → ClassId} {A : Nat → Prop} {a0 : Nat} {a1 : Nat} {a2 : Nat} {a3 : Nat} {a4 : Nat} {a5 : Nat} {a6 : Nat} {a7 : Nat} {a8 : Nat} {a9 : Nat} {a10 : Nat} {a11 : Nat} {a12 : Nat} {a13 : Nat} {a14 : Nat} {a15 : Nat} {o_n : Int32} {o_all : Int32} {o_made : Int32} {o_threatMany : Int32} {o_length : Int32} {o_holes : Int32} {o_game : Nat → Int32} {o_near : Nat → Int64} {o_kept : Nat → Int32} {o_isKept : Nat → Int32} {o_threatOf : Nat → Int32} {o_threatSet : Nat → Int64} {o_text : Nat → Int32} {o_far : Nat → Int32} {o_back : Nat → Int32} {o_hole : Nat → Int32} {o_isWon : Nat → Int32} {o_won : Nat → Int32} {o_lasts : Nat → Int32} {o_power : Nat → Int32} {o : Int32 × Int64 × Int64 × Int32 × (Nat → Int32)} (hc : Cx p s m args meth c yX6_faultOf cX6_faultOf 5 (some .int)) (hK : va_K D vwCl (TY C) s) (hA : ∀ q : Nat, s.heap.size ≤ q → A q) (hO : va_P D vwCl ([] : va_W) s.heap) (hN : ∀ q ∈ ([] : va_W), ¬ A q.1) : ∀ (n : Nat), ∀ (v1 : Int32) (v2 : Int32) (o_own0 : Int64) (o_own1 : Int64) (o_tellings : Int32) (o_told : Nat → Int32), m_X6_faultOf_c19 o_n o_length o_near o_text  n v1 v2 o_own0 o_own1 o_tellings o_told = some o → ∀ (H : Heap) (locs : List Loc), va_P D vwCl (wX6 C a0 a1 a2 a3 a4 a5 a6 a7 a8 a9 a10 a11 a12 a13 a14 a15 o_n o_all o_made o_own0 o_own1 o_threatMany o_length o_holes o_tellings o_game o_near o_kept o_isKept o_threatOf o_threatSet o_text o_far o_back o_hole o_isWon o_won o_lasts o_power o_told) H → va_D A (wX6 C a0 a1 a2 a3 a4 a5 a6 a7 a8 a9 a10 a11 a12 a13 a14 a15 o_n o_all o_made o_own0 o_own1 o_threatMany o_length o_holes o_tellings o_game o_near o_kept o_isKept o_threatOf o_threatSet o_text o_far o_back o_hole o_isWon o_won o_lasts o_power o_told) → va_S A s.heap H locs → ∀ (ls : Array Slot), lv_has ls 5 [(0, .ref a0), (1, .int v1), (2, .int v2)] → W p l e R_X6_faultOf s m args below meth c H locs 0 0 (MQ below (QWi D o.1 (wX6 C a0 a1 a2 a3 a4 a5 a6 a7 a8 a9 a10 a11 a12 a13 a14 a15 o_n o_all o_made o.2.1 o.2.2.1 o_threatMany o_length o_holes o.2.2.2.1 o_game o_near o_kept o_isKept o_threatOf o_threatSet o_text o_far o_back o_hole o_isWon o_won o_lasts o_power o.2.2.2.2) A) args s 0 0 A) (F0 m 19 ls []) := by
  have hx := hc.1
  have hb := hc.2.1
  have hown := hc.2.2.2.2.1
  have hts := hc.2.2.2.2.2.1
  intro n
  induction n with
  | zero =>
    intro v1 v2 o_own0 o_own1 o_tellings o_told hf
    exact no_some hf
  | succ n ih =>
    intro v1 v2 o_own0 o_own1 o_tellings o_told hf H locs hP hD hS ls hl
    refine lv_iload_n hx hb dX6_faultOf_19 rfl (lv_at hl 1 rfl) ?_
    refine lv_aload_n hx hb dX6_faultOf_20 rfl (lv_at hl 0 rfl) ?_
    refine va_get (D := D) (ci := 6) (v := .int o_length) (C := RX6) (T := TX6) (N := 24) hx hb hts inX6 hown hK hP 0 rfl rfl 13 (by decide) (hts _ q_667) (fun _ h9 => h9) rfl dX6_faultOf_21 ?_
    refine lv_icmp_ge (tgt := 283) hx hb dX6_faultOf_24 (by decide) (fun c1 => ?_) (fun c1 => ?_)
    · have hf := if_t hf c1
      refine lv_iconst (v := (-1 : Int32)) hx hb dX6_faultOf_283 (by decide) ?_
      have hf := Option.some.inj hf
      subst hf
      exact rWi hc rfl hP hD hS dX6_faultOf_284
    · have hf := if_f hf c1
      refine lv_aload_n hx hb dX6_faultOf_27 rfl (lv_at hl 0 rfl) ?_
      refine va_get (D := D) (ci := 6) (v := .ref a7) (C := RX6) (T := TX6) (N := 24) hx hb hts inX6 hown hK hP 0 rfl rfl 12 (by decide) (hts _ q_666) (fun _ h9 => h9) rfl dX6_faultOf_28 ?_
      refine lv_iload_n hx hb dX6_faultOf_31 rfl (lv_at hl 1 rfl) ?_
      obtain ⟨h2, hf⟩ := ok_t hf
      refine va_iald hx hb hK hP 7 0 rfl rfl (okI_in h2) dX6_faultOf_32 ?_
      refine lv_istore_n (lv' := [(3, .int (o_text v1.toNatClampNeg)), (0, .ref a0), (1, .int v1), (2, .int v2)]) hx hb dX6_faultOf_33 rfl hl (by decide) rfl (fun ls hl => ?_)
      refine lv_aload_n hx hb dX6_faultOf_34 rfl (lv_at hl 1 rfl) ?_
      obtain ⟨u3, hu3, hf⟩ := bind_some hf
      refine rcVi (As := []) (rest := []) hc k_X6_129 (c_X6_winnerNow l D C a0 a2 o_n a1 o_all o_made o_own0 o_own1 a3 a4 a5 a6 o_threatMany a7 o_length a8 a9 a10 o_holes a11 a12 a13 a14 a15 o_tellings o_near  _ hu3) ⟨rfl, rfl, Nat.le_of_ble_eq_true rfl, Nat.le_of_ble_eq_true rfl⟩ (hP.sub [0, 2] rfl) hK (q0 := 0) rfl rfl rfl hl rfl rfl (Nat.le_of_ble_eq_true rfl) ⟨Nat.zero_le _, Nat.zero_le _⟩ dX6_faultOf_35 ?_
      refine lv_bipush (v := (-15 : Int32)) hx hb dX6_faultOf_38 (by decide) ?_
      refine lv_icmp_eq (tgt := 45) hx hb dX6_faultOf_40 (by decide) (fun c4 => ?_) (fun c4 => ?_)
      · have hf := if_t hf c4
        refine lv_bipush (v := (-16 : Int32)) hx hb dX6_faultOf_45 (by decide) ?_
        refine lv_istore (lv' := [(4, .int (-16 : Int32)), (3, .int (o_text v1.toNatClampNeg)), (0, .ref a0), (1, .int v1), (2, .int v2)]) hx hb dX6_faultOf_47 hl (by decide) rfl (fun ls hl => ?_)
        refine lv_iload_n hx hb dX6_faultOf_49 rfl (lv_at hl 1 rfl) ?_
        refine lv_bipush (v := (83 : Int32)) hx hb dX6_faultOf_50 (by decide) ?_
        refine lv_icmp_ne (tgt := 100) hx hb dX6_faultOf_52 (by decide) (fun c5 => ?_) (fun c5 => ?_)
        · have hf := if_f hf c5
          refine lv_iload_n hx hb dX6_faultOf_100 rfl (lv_at hl 1 rfl) ?_
          refine lv_bipush (v := (97 : Int32)) hx hb dX6_faultOf_101 (by decide) ?_
          refine lv_isub hx hb dX6_faultOf_103 ?_
          refine lv_iconst (v := (0 : Int32)) hx hb dX6_faultOf_104 (by decide) ?_
          refine lv_aload_n hx hb dX6_faultOf_105 rfl (lv_at hl 2 rfl) ?_
          refine va_get (D := D) (ci := 6) (v := .int o_n) (C := RX6) (T := TX6) (N := 24) hx hb hts inX6 hown hK hP 0 rfl rfl 0 (by decide) (hts _ q_654) (fun _ h9 => h9) rfl dX6_faultOf_106 ?_
          refine lv_iconst (v := (1 : Int32)) hx hb dX6_faultOf_109 (by decide) ?_
          refine lv_isub hx hb dX6_faultOf_110 ?_
          refine rcSi (As := [.int ((o_text v1.toNatClampNeg) - (97 : Int32)), .int (0 : Int32), .int (o_n - (1 : Int32))]) (rest := []) hc k_X6_64 (c_X6_in l D C ((o_text v1.toNatClampNeg) - (97 : Int32)) (0 : Int32) (o_n - (1 : Int32))  _ rfl) ⟨rfl, rfl, Nat.le_of_ble_eq_true rfl, Nat.le_of_ble_eq_true rfl⟩ (hP.sub [] rfl) hK hl rfl rfl (Nat.le_of_ble_eq_true rfl) ⟨Nat.zero_le _, Nat.zero_le _⟩ dX6_faultOf_111 ?_
          refine lv_if_ne (tgt := 119) hx hb dX6_faultOf_114 (by decide) (fun c6 => ?_) (fun c6 => ?_)
          · have hf := if_f hf c6
            refine lv_iinc (v := (v1 + (1 : Int32))) (lv' := [(1, .int (v1 + (1 : Int32))), (4, .int (-16 : Int32)), (3, .int (o_text v1.toNatClampNeg)), (0, .ref a0), (2, .int v2)]) hx hb dX6_faultOf_119 hl (k := 3) rfl rfl (by decide) rfl (fun ls hl => ?_)
            refine lv_iload_n hx hb dX6_faultOf_122 rfl (lv_at hl 0 rfl) ?_
            refine lv_aload_n hx hb dX6_faultOf_123 rfl (lv_at hl 3 rfl) ?_
            refine va_get (D := D) (ci := 6) (v := .int o_length) (C := RX6) (T := TX6) (N := 24) hx hb hts inX6 hown hK hP 0 rfl rfl 13 (by decide) (hts _ q_667) (fun _ h9 => h9) rfl dX6_faultOf_124 ?_
            refine lv_icmp_eq (tgt := 152) hx hb dX6_faultOf_127 (by decide) (fun c7 => ?_) (fun c7 => ?_)
            · have hf := if_t hf c7
              refine lv_iload_n hx hb dX6_faultOf_152 rfl (lv_at hl 0 rfl) ?_
              have hf := Option.some.inj hf
              subst hf
              exact rWi hc rfl hP hD hS dX6_faultOf_153
            · have hf := if_f hf c7
              refine lv_aload_n hx hb dX6_faultOf_130 rfl (lv_at hl 3 rfl) ?_
              refine va_get (D := D) (ci := 6) (v := .ref a7) (C := RX6) (T := TX6) (N := 24) hx hb hts inX6 hown hK hP 0 rfl rfl 12 (by decide) (hts _ q_666) (fun _ h9 => h9) rfl dX6_faultOf_131 ?_
              refine lv_iload_n hx hb dX6_faultOf_134 rfl (lv_at hl 0 rfl) ?_
              obtain ⟨h8, hf⟩ := ok_t hf
              refine va_iald hx hb hK hP 7 0 rfl rfl (okI_in h8) dX6_faultOf_135 ?_
              refine lv_bipush (v := (49 : Int32)) hx hb dX6_faultOf_136 (by decide) ?_
              refine lv_isub hx hb dX6_faultOf_138 ?_
              refine lv_iconst (v := (0 : Int32)) hx hb dX6_faultOf_139 (by decide) ?_
              refine lv_aload_n hx hb dX6_faultOf_140 rfl (lv_at hl 3 rfl) ?_
              refine va_get (D := D) (ci := 6) (v := .int o_n) (C := RX6) (T := TX6) (N := 24) hx hb hts inX6 hown hK hP 0 rfl rfl 0 (by decide) (hts _ q_654) (fun _ h9 => h9) rfl dX6_faultOf_141 ?_
              refine lv_iconst (v := (1 : Int32)) hx hb dX6_faultOf_144 (by decide) ?_
              refine lv_isub hx hb dX6_faultOf_145 ?_
              refine rcSi (As := [.int ((o_text (v1 + (1 : Int32)).toNatClampNeg) - (49 : Int32)), .int (0 : Int32), .int (o_n - (1 : Int32))]) (rest := []) hc k_X6_64 (c_X6_in l D C ((o_text (v1 + (1 : Int32)).toNatClampNeg) - (49 : Int32)) (0 : Int32) (o_n - (1 : Int32))  _ rfl) ⟨rfl, rfl, Nat.le_of_ble_eq_true rfl, Nat.le_of_ble_eq_true rfl⟩ (hP.sub [] rfl) hK hl rfl rfl (Nat.le_of_ble_eq_true rfl) ⟨Nat.zero_le _, Nat.zero_le _⟩ dX6_faultOf_146 ?_
              refine lv_if_ne (tgt := 154) hx hb dX6_faultOf_149 (by decide) (fun c9 => ?_) (fun c9 => ?_)
              · have hf := if_f hf c9
                refine lv_aload_n hx hb dX6_faultOf_154 rfl (lv_at hl 3 rfl) ?_
                refine va_get (D := D) (ci := 6) (v := .ref a7) (C := RX6) (T := TX6) (N := 24) hx hb hts inX6 hown hK hP 0 rfl rfl 12 (by decide) (hts _ q_666) (fun _ h9 => h9) rfl dX6_faultOf_155 ?_
                refine lv_iload_n hx hb dX6_faultOf_158 rfl (lv_at hl 0 rfl) ?_
                obtain ⟨h10, hf⟩ := ok_t hf
                refine va_iald hx hb hK hP 7 0 rfl rfl (okI_in h10) dX6_faultOf_159 ?_
                refine lv_bipush (v := (49 : Int32)) hx hb dX6_faultOf_160 (by decide) ?_
                refine lv_isub hx hb dX6_faultOf_162 ?_
                refine lv_aload_n hx hb dX6_faultOf_163 rfl (lv_at hl 3 rfl) ?_
                refine va_get (D := D) (ci := 6) (v := .int o_n) (C := RX6) (T := TX6) (N := 24) hx hb hts inX6 hown hK hP 0 rfl rfl 0 (by decide) (hts _ q_654) (fun _ h9 => h9) rfl dX6_faultOf_164 ?_
                refine lv_imul hx hb dX6_faultOf_167 ?_
                refine lv_iload_n hx hb dX6_faultOf_168 rfl (lv_at hl 2 rfl) ?_
                refine lv_iadd hx hb dX6_faultOf_169 ?_
                refine lv_bipush (v := (97 : Int32)) hx hb dX6_faultOf_170 (by decide) ?_
                refine lv_isub hx hb dX6_faultOf_172 ?_
                refine lv_topi (fun x11 ex11 => ?_)
                have hf := jlet_t hf ex11
                refine lv_istore (lv' := [(4, .int x11), (1, .int (v1 + (1 : Int32))), (3, .int (o_text v1.toNatClampNeg)), (0, .ref a0), (2, .int v2)]) hx hb dX6_faultOf_173 hl (by decide) rfl (fun ls hl => ?_)
                refine lv_aload_n hx hb dX6_faultOf_175 rfl (lv_at hl 3 rfl) ?_
                refine rcVl (As := []) (rest := []) hc k_X6_126 (c_X6_free l D C a0 o_n a1 o_all o_made o_own0 o_own1 a2 a3 a4 a5 a6 o_threatMany a7 o_length a8 a9 a10 o_holes a11 a12 a13 a14 a15 o_tellings  _ rfl) ⟨rfl, rfl, Nat.le_of_ble_eq_true rfl, Nat.le_of_ble_eq_true rfl⟩ (hP.sub [0] rfl) hK (q0 := 0) rfl rfl rfl hl rfl rfl (Nat.le_of_ble_eq_true rfl) ⟨Nat.zero_le _, Nat.zero_le _⟩ dX6_faultOf_176 ?_
                refine lv_iload hx hb dX6_faultOf_179 (lv_at hl 0 rfl) ?_
                refine rcSi (As := [.long (m_X6_free o_n o_own0 o_own1), .int x11]) (rest := []) hc k_X6_85 (c_X6_has l D C (m_X6_free o_n o_own0 o_own1) x11  _ rfl) ⟨rfl, rfl, Nat.le_of_ble_eq_true rfl, Nat.le_of_ble_eq_true rfl⟩ (hP.sub [] rfl) hK hl rfl rfl (Nat.le_of_ble_eq_true rfl) ⟨Nat.zero_le _, Nat.zero_le _⟩ dX6_faultOf_181 ?_
                refine lv_if_ne (tgt := 189) hx hb dX6_faultOf_184 (by decide) (fun c12 => ?_) (fun c12 => ?_)
                · have hf := if_f hf c12
                  refine lv_iinc (v := ((v1 + (1 : Int32)) + (1 : Int32))) (lv' := [(1, .int ((v1 + (1 : Int32)) + (1 : Int32))), (4, .int x11), (3, .int (o_text v1.toNatClampNeg)), (0, .ref a0), (2, .int v2)]) hx hb dX6_faultOf_189 hl (k := 1) rfl rfl (by decide) rfl (fun ls hl => ?_)
                  refine lv_aload_n hx hb dX6_faultOf_192 rfl (lv_at hl 3 rfl) ?_
                  refine va_get (D := D) (ci := 6) (v := .int o_tellings) (C := RX6) (T := TX6) (N := 24) hx hb hts inX6 hown hK hP 0 rfl rfl 23 (by decide) (hts _ q_677) (fun _ h9 => h9) rfl dX6_faultOf_193 ?_
                  refine lv_if_ne (tgt := 204) hx hb dX6_faultOf_196 (by decide) (fun c13 => ?_) (fun c13 => ?_)
                  · have hf := if_f hf c13
                    refine lv_iload_n hx hb dX6_faultOf_204 rfl (lv_at hl 4 rfl) ?_
                    exact w_X6_faultOf_c205 hc hK hA hO hN (m_X6_faultOf_c19 o_n o_length o_near o_text  n) ih ((v1 + (1 : Int32)) + (1 : Int32)) x11 v2 o_own0 o_own1 o_tellings o_told hf _ _ hP hD hS ls (lv_sub hl [3, 0, 1] rfl)
                  · have hf := if_t hf c13
                    refine lv_iload hx hb dX6_faultOf_199 (lv_at hl 1 rfl) ?_
                    refine lv_goto (tgt := 205) hx hb dX6_faultOf_201 (by decide) ?_
                    exact w_X6_faultOf_c205 hc hK hA hO hN (m_X6_faultOf_c19 o_n o_length o_near o_text  n) ih ((v1 + (1 : Int32)) + (1 : Int32)) x11 x11 o_own0 o_own1 o_tellings o_told hf _ _ hP hD hS ls (lv_sub hl [3, 0, 1] rfl)
                · have hf := if_t hf c12
                  refine lv_iload_n hx hb dX6_faultOf_187 rfl (lv_at hl 1 rfl) ?_
                  have hf := Option.some.inj hf
                  subst hf
                  exact rWi hc rfl hP hD hS dX6_faultOf_188
              · have hf := if_t hf c9
                refine lv_iload_n hx hb dX6_faultOf_152 rfl (lv_at hl 0 rfl) ?_
                have hf := Option.some.inj hf
                subst hf
                exact rWi hc rfl hP hD hS dX6_faultOf_153
          · have hf := if_t hf c6
            refine lv_iload_n hx hb dX6_faultOf_117 rfl (lv_at hl 3 rfl) ?_
            have hf := Option.some.inj hf
            subst hf
            exact rWi hc rfl hP hD hS dX6_faultOf_118
        · have hf := if_t hf c5
          refine lv_aload_n hx hb dX6_faultOf_55 rfl (lv_at hl 2 rfl) ?_
          refine va_get (D := D) (ci := 6) (v := .int o_tellings) (C := RX6) (T := TX6) (N := 24) hx hb hts inX6 hown hK hP 0 rfl rfl 23 (by decide) (hts _ q_677) (fun _ h9 => h9) rfl dX6_faultOf_56 ?_
          refine lv_iconst (v := (1 : Int32)) hx hb dX6_faultOf_59 (by decide) ?_
          refine lv_icmp_eq (tgt := 65) hx hb dX6_faultOf_60 (by decide) (fun c17 => ?_) (fun c17 => ?_)
          · have hf := if_t hf c17
            refine lv_aload_n hx hb dX6_faultOf_65 rfl (lv_at hl 2 rfl) ?_
            refine lv_lconst (v := (0 : Int64)) hx hb dX6_faultOf_66 (by decide) ?_
            refine va_put (D := D) (ci := 6) (v := .long (0 : Int64)) (ty := .long) (C := RX6) (T := TX6) (N := 24) hx hb hts inX6 tyX6 tyX6_ok nmX6 hown hK hP hD hS 0 rfl rfl 4 (by decide) (hts _ q_658) (fun _ h9 => h9) rfl (by decide +kernel) rfl rfl (Nat.le_of_ble_eq_true rfl) dX6_faultOf_67 (fun H locs hP hD hS => ?_)
            have hP : va_P D vwCl (wX6 C a0 a1 a2 a3 a4 a5 a6 a7 a8 a9 a10 a11 a12 a13 a14 a15 o_n o_all o_made (0 : Int64) o_own1 o_threatMany o_length o_holes o_tellings o_game o_near o_kept o_isKept o_threatOf o_threatSet o_text o_far o_back o_hole o_isWon o_won o_lasts o_power o_told) H := hP
            have hD : va_D A (wX6 C a0 a1 a2 a3 a4 a5 a6 a7 a8 a9 a10 a11 a12 a13 a14 a15 o_n o_all o_made (0 : Int64) o_own1 o_threatMany o_length o_holes o_tellings o_game o_near o_kept o_isKept o_threatOf o_threatSet o_text o_far o_back o_hole o_isWon o_won o_lasts o_power o_told) := hD
            refine lv_aload_n hx hb dX6_faultOf_70 rfl (lv_at hl 2 rfl) ?_
            refine lv_lconst (v := (1 : Int64)) hx hb dX6_faultOf_71 (by decide) ?_
            refine lv_iload_n hx hb dX6_faultOf_72 rfl (lv_at hl 4 rfl) ?_
            refine lv_aload_n hx hb dX6_faultOf_73 rfl (lv_at hl 2 rfl) ?_
            refine va_get (D := D) (ci := 6) (v := .int o_n) (C := RX6) (T := TX6) (N := 24) hx hb hts inX6 hown hK hP 0 rfl rfl 0 (by decide) (hts _ q_654) (fun _ h9 => h9) rfl dX6_faultOf_74 ?_
            obtain ⟨h18, hf⟩ := nz_t hf
            refine lv_irem hx hb dX6_faultOf_77 h18 ?_
            refine lv_aload_n hx hb dX6_faultOf_78 rfl (lv_at hl 2 rfl) ?_
            refine va_get (D := D) (ci := 6) (v := .int o_n) (C := RX6) (T := TX6) (N := 24) hx hb hts inX6 hown hK hP 0 rfl rfl 0 (by decide) (hts _ q_654) (fun _ h9 => h9) rfl dX6_faultOf_79 ?_
            refine lv_imul hx hb dX6_faultOf_82 ?_
            refine lv_iload_n hx hb dX6_faultOf_83 rfl (lv_at hl 4 rfl) ?_
            refine lv_aload_n hx hb dX6_faultOf_84 rfl (lv_at hl 2 rfl) ?_
            refine va_get (D := D) (ci := 6) (v := .int o_n) (C := RX6) (T := TX6) (N := 24) hx hb hts inX6 hown hK hP 0 rfl rfl 0 (by decide) (hts _ q_654) (fun _ h9 => h9) rfl dX6_faultOf_85 ?_
            obtain ⟨h19, hf⟩ := nz_t hf
            refine lv_idiv hx hb dX6_faultOf_88 h19 ?_
            refine lv_iadd hx hb dX6_faultOf_89 ?_
            refine lv_lshl (v := (jshl (1 : Int64) (((jirem v2 o_n) * o_n) + (v2 / o_n)))) hx hb dX6_faultOf_90 rfl ?_
            refine va_put (D := D) (ci := 6) (v := .long (jshl (1 : Int64) (((jirem v2 o_n) * o_n) + (v2 / o_n)))) (ty := .long) (C := RX6) (T := TX6) (N := 24) hx hb hts inX6 tyX6 tyX6_ok nmX6 hown hK hP hD hS 0 rfl rfl 5 (by decide) (hts _ q_659) (fun _ h9 => h9) rfl (by decide +kernel) rfl rfl (Nat.le_of_ble_eq_true rfl) dX6_faultOf_91 (fun H locs hP hD hS => ?_)
            have hP : va_P D vwCl (wX6 C a0 a1 a2 a3 a4 a5 a6 a7 a8 a9 a10 a11 a12 a13 a14 a15 o_n o_all o_made (0 : Int64) (jshl (1 : Int64) (((jirem v2 o_n) * o_n) + (v2 / o_n))) o_threatMany o_length o_holes o_tellings o_game o_near o_kept o_isKept o_threatOf o_threatSet o_text o_far o_back o_hole o_isWon o_won o_lasts o_power o_told) H := hP
            have hD : va_D A (wX6 C a0 a1 a2 a3 a4 a5 a6 a7 a8 a9 a10 a11 a12 a13 a14 a15 o_n o_all o_made (0 : Int64) (jshl (1 : Int64) (((jirem v2 o_n) * o_n) + (v2 / o_n))) o_threatMany o_length o_holes o_tellings o_game o_near o_kept o_isKept o_threatOf o_threatSet o_text o_far o_back o_hole o_isWon o_won o_lasts o_power o_told) := hD
            refine lv_iinc (v := (v1 + (1 : Int32))) (lv' := [(1, .int (v1 + (1 : Int32))), (4, .int (-16 : Int32)), (3, .int (o_text v1.toNatClampNeg)), (0, .ref a0), (2, .int v2)]) hx hb dX6_faultOf_94 hl (k := 3) rfl rfl (by decide) rfl (fun ls hl => ?_)
            refine lv_goto (tgt := 259) hx hb dX6_faultOf_97 (by decide) ?_
            exact w_X6_faultOf_c259 hc hK hA hO hN (m_X6_faultOf_c19 o_n o_length o_near o_text  n) ih (v1 + (1 : Int32)) v2 (-16 : Int32) (0 : Int64) (jshl (1 : Int64) (((jirem v2 o_n) * o_n) + (v2 / o_n))) o_tellings o_told hf _ _ hP hD hS ls (lv_sub hl [3, 0, 4, 1] rfl)
          · have hf := if_f hf c17
            refine lv_iload_n hx hb dX6_faultOf_63 rfl (lv_at hl 3 rfl) ?_
            have hf := Option.some.inj hf
            subst hf
            exact rWi hc rfl hP hD hS dX6_faultOf_64
      · have hf := if_f hf c4
        refine lv_iload_n hx hb dX6_faultOf_43 rfl (lv_at hl 2 rfl) ?_
        have hf := Option.some.inj hf
        subst hf
        exact rWi hc rfl hP hD hS dX6_faultOf_44
def m_X6_faultOf (o_n : Int32) (o_length : Int32) (o_near : Nat → Int64) (o_text : Nat → Int32) (o_told : Nat → Int32) : Option (Int32 × Int64 × Int64 × Int32 × (Nat → Int32)) := (m_X6_faultOf_c19 o_n o_length o_near o_text FU (0 : Int32) (0 : Int32) (0 : Int64) (0 : Int64) (0 : Int32) o_told)
set_option maxHeartbeats 4000000 in
set_option maxRecDepth 100000 in
theorem c_X6_faultOf (l : Launch) (D : va_G) (C : Nat → ClassId) (sz : Nat) (a0 : Nat) (a1 : Nat) (a2 : Nat) (a3 : Nat) (a4 : Nat) (a5 : Nat) (a6 : Nat) (a7 : Nat) (a8 : Nat) (a9 : Nat) (a10 : Nat) (a11 : Nat) (a12 : Nat) (a13 : Nat) (a14 : Nat) (a15 : Nat) (o_n : Int32) (o_all : Int32) (o_made : Int32) (o_own0 : Int64) (o_own1 : Int64) (o_threatMany : Int32) (o_length : Int32) (o_holes : Int32) (o_tellings : Int32) (o_game : Nat → Int32) (o_near : Nat → Int64) (o_kept : Nat → Int32) (o_isKept : Nat → Int32) (o_threatOf : Nat → Int32) (o_threatSet : Nat → Int64) (o_text : Nat → Int32) (o_far : Nat → Int32) (o_back : Nat → Int32) (o_hole : Nat → Int32) (o_isWon : Nat → Int32) (o_won : Nat → Int32) (o_lasts : Nat → Int32) (o_power : Nat → Int32) (o_told : Nat → Int32) (o : Int32 × Int64 × Int64 × Int32 × (Nat → Int32)) (hf : m_X6_faultOf o_n o_length o_near o_text o_told = some o) : Met l yX6_faultOf (wl yX6_faultOf cX6_faultOf 5 (some .int)) R_X6_faultOf (PW [.ref a0] D C sz (wX6 C a0 a1 a2 a3 a4 a5 a6 a7 a8 a9 a10 a11 a12 a13 a14 a15 o_n o_all o_made o_own0 o_own1 o_threatMany o_length o_holes o_tellings o_game o_near o_kept o_isKept o_threatOf o_threatSet o_text o_far o_back o_hole o_isWon o_won o_lasts o_power o_told) ([] : va_W)) (QWi D o.1 (wX6 C a0 a1 a2 a3 a4 a5 a6 a7 a8 a9 a10 a11 a12 a13 a14 a15 o_n o_all o_made o.2.1 o.2.2.1 o_threatMany o_length o_holes o.2.2.2.1 o_game o_near o_kept o_isKept o_threatOf o_threatSet o_text o_far o_back o_hole o_isWon o_won o_lasts o_power o.2.2.2.2) (va_A (wX6 C a0 a1 a2 a3 a4 a5 a6 a7 a8 a9 a10 a11 a12 a13 a14 a15 o_n o_all o_made o_own0 o_own1 o_threatMany o_length o_holes o_tellings o_game o_near o_kept o_isKept o_threatOf o_threatSet o_text o_far o_back o_hole o_isWon o_won o_lasts o_power o_told) sz)) 0 0 (va_A (wX6 C a0 a1 a2 a3 a4 a5 a6 a7 a8 a9 a10 a11 a12 a13 a14 a15 o_n o_all o_made o_own0 o_own1 o_threatMany o_length o_holes o_tellings o_game o_near o_kept o_isKept o_threatOf o_threatSet o_text o_far o_back o_hole o_isWon o_won o_lasts o_power o_told) sz) := by
  refine Met_ofC (by decide) ?_
  intro p e s m args below meth c hc hv
  obtain ⟨rfl, hsz, hP, hK, hD0, hO, hN0⟩ := hv
  subst hsz
  have hD := hD0.self (sz := s.heap.size)
  have hN : ∀ q ∈ ([] : va_W), ¬ va_A (wX6 C a0 a1 a2 a3 a4 a5 a6 a7 a8 a9 a10 a11 a12 a13 a14 a15 o_n o_all o_made o_own0 o_own1 o_threatMany o_length o_holes o_tellings o_game o_near o_kept o_isKept o_threatOf o_threatSet o_text o_far o_back o_hole o_isWon o_won o_lasts o_power o_told) s.heap.size q.1 := hN0
  generalize hAe : va_A (wX6 C a0 a1 a2 a3 a4 a5 a6 a7 a8 a9 a10 a11 a12 a13 a14 a15 o_n o_all o_made o_own0 o_own1 o_threatMany o_length o_holes o_tellings o_game o_near o_kept o_isKept o_threatOf o_threatSet o_text o_far o_back o_hole o_isWon o_won o_lasts o_power o_told) s.heap.size = A at hD hN ⊢
  have hA : ∀ q : Nat, s.heap.size ≤ q → A q := fun q h => by rw [← hAe]; exact Or.inr h
  have hS : va_S A s.heap s.heap [] := va_S.rf
  have hx := hc.1
  have hb := hc.2.1
  have hown := hc.2.2.2.2.1
  have hts := hc.2.2.2.2.2.1
  refine en_F rfl (fun ls hl => ?_)
  have hl : lv_has ls 5 [(0, .ref a0)] := hl
  refine lv_aload_n hx hb dX6_faultOf_0 rfl (lv_at hl 0 rfl) ?_
  refine lv_iconst (v := (0 : Int32)) hx hb dX6_faultOf_1 (by decide) ?_
  refine va_put (D := D) (ci := 6) (v := .int (0 : Int32)) (ty := .int) (C := RX6) (T := TX6) (N := 24) hx hb hts inX6 tyX6 tyX6_ok nmX6 hown hK hP hD hS 0 rfl rfl 23 (by decide) (hts _ q_677) (fun _ h9 => h9) rfl (by decide +kernel) rfl rfl (Nat.le_of_ble_eq_true rfl) dX6_faultOf_2 (fun H locs hP hD hS => ?_)
  have hP : va_P D vwCl (wX6 C a0 a1 a2 a3 a4 a5 a6 a7 a8 a9 a10 a11 a12 a13 a14 a15 o_n o_all o_made o_own0 o_own1 o_threatMany o_length o_holes (0 : Int32) o_game o_near o_kept o_isKept o_threatOf o_threatSet o_text o_far o_back o_hole o_isWon o_won o_lasts o_power o_told) H := hP
  have hD : va_D A (wX6 C a0 a1 a2 a3 a4 a5 a6 a7 a8 a9 a10 a11 a12 a13 a14 a15 o_n o_all o_made o_own0 o_own1 o_threatMany o_length o_holes (0 : Int32) o_game o_near o_kept o_isKept o_threatOf o_threatSet o_text o_far o_back o_hole o_isWon o_won o_lasts o_power o_told) := hD
  refine lv_aload_n hx hb dX6_faultOf_5 rfl (lv_at hl 0 rfl) ?_
  refine lv_lconst (v := (0 : Int64)) hx hb dX6_faultOf_6 (by decide) ?_
  refine va_put (D := D) (ci := 6) (v := .long (0 : Int64)) (ty := .long) (C := RX6) (T := TX6) (N := 24) hx hb hts inX6 tyX6 tyX6_ok nmX6 hown hK hP hD hS 0 rfl rfl 4 (by decide) (hts _ q_658) (fun _ h9 => h9) rfl (by decide +kernel) rfl rfl (Nat.le_of_ble_eq_true rfl) dX6_faultOf_7 (fun H locs hP hD hS => ?_)
  have hP : va_P D vwCl (wX6 C a0 a1 a2 a3 a4 a5 a6 a7 a8 a9 a10 a11 a12 a13 a14 a15 o_n o_all o_made (0 : Int64) o_own1 o_threatMany o_length o_holes (0 : Int32) o_game o_near o_kept o_isKept o_threatOf o_threatSet o_text o_far o_back o_hole o_isWon o_won o_lasts o_power o_told) H := hP
  have hD : va_D A (wX6 C a0 a1 a2 a3 a4 a5 a6 a7 a8 a9 a10 a11 a12 a13 a14 a15 o_n o_all o_made (0 : Int64) o_own1 o_threatMany o_length o_holes (0 : Int32) o_game o_near o_kept o_isKept o_threatOf o_threatSet o_text o_far o_back o_hole o_isWon o_won o_lasts o_power o_told) := hD
  refine lv_aload_n hx hb dX6_faultOf_10 rfl (lv_at hl 0 rfl) ?_
  refine lv_lconst (v := (0 : Int64)) hx hb dX6_faultOf_11 (by decide) ?_
  refine va_put (D := D) (ci := 6) (v := .long (0 : Int64)) (ty := .long) (C := RX6) (T := TX6) (N := 24) hx hb hts inX6 tyX6 tyX6_ok nmX6 hown hK hP hD hS 0 rfl rfl 5 (by decide) (hts _ q_659) (fun _ h9 => h9) rfl (by decide +kernel) rfl rfl (Nat.le_of_ble_eq_true rfl) dX6_faultOf_12 (fun H locs hP hD hS => ?_)
  have hP : va_P D vwCl (wX6 C a0 a1 a2 a3 a4 a5 a6 a7 a8 a9 a10 a11 a12 a13 a14 a15 o_n o_all o_made (0 : Int64) (0 : Int64) o_threatMany o_length o_holes (0 : Int32) o_game o_near o_kept o_isKept o_threatOf o_threatSet o_text o_far o_back o_hole o_isWon o_won o_lasts o_power o_told) H := hP
  have hD : va_D A (wX6 C a0 a1 a2 a3 a4 a5 a6 a7 a8 a9 a10 a11 a12 a13 a14 a15 o_n o_all o_made (0 : Int64) (0 : Int64) o_threatMany o_length o_holes (0 : Int32) o_game o_near o_kept o_isKept o_threatOf o_threatSet o_text o_far o_back o_hole o_isWon o_won o_lasts o_power o_told) := hD
  refine lv_iconst (v := (0 : Int32)) hx hb dX6_faultOf_15 (by decide) ?_
  refine lv_istore_n (lv' := [(1, .int (0 : Int32)), (0, .ref a0)]) hx hb dX6_faultOf_16 rfl hl (by decide) rfl (fun ls hl => ?_)
  refine lv_iconst (v := (0 : Int32)) hx hb dX6_faultOf_17 (by decide) ?_
  refine lv_istore_n (lv' := [(2, .int (0 : Int32)), (1, .int (0 : Int32)), (0, .ref a0)]) hx hb dX6_faultOf_18 rfl hl (by decide) rfl (fun ls hl => ?_)
  exact w_X6_faultOf_c19 hc hK hA hO hN  FU (0 : Int32) (0 : Int32) (0 : Int64) (0 : Int64) (0 : Int32) o_told hf _ _ hP hD hS ls (lv_sub hl [2, 1, 0] rfl)
abbrev R_X6_faultAside : Room := { frames := 6, cells := 0, slots := 0, locals := 142 }
def m_X6_faultAside (o_n : Int32) (o_made : Int32) (o_length : Int32) (o_game : Nat → Int32) (o_near : Nat → Int64) (o_text : Nat → Int32) (o_told : Nat → Int32) : Option (Int32 × Int64 × Int64 × Int32 × (Nat → Int32)) := ((m_X6_faultOf o_n o_length o_near o_text o_told).bind fun u1 => ((m_X6_goes o_n o_game o_made).bind fun u2 => some (u1.1, u2.1, u2.2, u1.2.2.2.1, u1.2.2.2.2)))
set_option maxHeartbeats 4000000 in
set_option maxRecDepth 100000 in
theorem c_X6_faultAside (l : Launch) (D : va_G) (C : Nat → ClassId) (sz : Nat) (a0 : Nat) (a1 : Nat) (a2 : Nat) (a3 : Nat) (a4 : Nat) (a5 : Nat) (a6 : Nat) (a7 : Nat) (a8 : Nat) (a9 : Nat) (a10 : Nat) (a11 : Nat) (a12 : Nat) (a13 : Nat) (a14 : Nat) (a15 : Nat) (o_n : Int32) (o_all : Int32) (o_made : Int32) (o_own0 : Int64) (o_own1 : Int64) (o_threatMany : Int32) (o_length : Int32) (o_holes : Int32) (o_tellings : Int32) (o_game : Nat → Int32) (o_near : Nat → Int64) (o_kept : Nat → Int32) (o_isKept : Nat → Int32) (o_threatOf : Nat → Int32) (o_threatSet : Nat → Int64) (o_text : Nat → Int32) (o_far : Nat → Int32) (o_back : Nat → Int32) (o_hole : Nat → Int32) (o_isWon : Nat → Int32) (o_won : Nat → Int32) (o_lasts : Nat → Int32) (o_power : Nat → Int32) (o_told : Nat → Int32) (o : Int32 × Int64 × Int64 × Int32 × (Nat → Int32)) (hf : m_X6_faultAside o_n o_made o_length o_game o_near o_text o_told = some o) : Met l yX6_faultAside (wl yX6_faultAside cX6_faultAside 2 (some .int)) R_X6_faultAside (PW [.ref a0] D C sz (wX6 C a0 a1 a2 a3 a4 a5 a6 a7 a8 a9 a10 a11 a12 a13 a14 a15 o_n o_all o_made o_own0 o_own1 o_threatMany o_length o_holes o_tellings o_game o_near o_kept o_isKept o_threatOf o_threatSet o_text o_far o_back o_hole o_isWon o_won o_lasts o_power o_told) ([] : va_W)) (QWi D o.1 (wX6 C a0 a1 a2 a3 a4 a5 a6 a7 a8 a9 a10 a11 a12 a13 a14 a15 o_n o_all o_made o.2.1 o.2.2.1 o_threatMany o_length o_holes o.2.2.2.1 o_game o_near o_kept o_isKept o_threatOf o_threatSet o_text o_far o_back o_hole o_isWon o_won o_lasts o_power o.2.2.2.2) (va_A (wX6 C a0 a1 a2 a3 a4 a5 a6 a7 a8 a9 a10 a11 a12 a13 a14 a15 o_n o_all o_made o_own0 o_own1 o_threatMany o_length o_holes o_tellings o_game o_near o_kept o_isKept o_threatOf o_threatSet o_text o_far o_back o_hole o_isWon o_won o_lasts o_power o_told) sz)) 0 0 (va_A (wX6 C a0 a1 a2 a3 a4 a5 a6 a7 a8 a9 a10 a11 a12 a13 a14 a15 o_n o_all o_made o_own0 o_own1 o_threatMany o_length o_holes o_tellings o_game o_near o_kept o_isKept o_threatOf o_threatSet o_text o_far o_back o_hole o_isWon o_won o_lasts o_power o_told) sz) := by
  refine Met_ofC (by decide) ?_
  intro p e s m args below meth c hc hv
  obtain ⟨rfl, hsz, hP, hK, hD0, hO, hN0⟩ := hv
  subst hsz
  have hD := hD0.self (sz := s.heap.size)
  have hN : ∀ q ∈ ([] : va_W), ¬ va_A (wX6 C a0 a1 a2 a3 a4 a5 a6 a7 a8 a9 a10 a11 a12 a13 a14 a15 o_n o_all o_made o_own0 o_own1 o_threatMany o_length o_holes o_tellings o_game o_near o_kept o_isKept o_threatOf o_threatSet o_text o_far o_back o_hole o_isWon o_won o_lasts o_power o_told) s.heap.size q.1 := hN0
  generalize hAe : va_A (wX6 C a0 a1 a2 a3 a4 a5 a6 a7 a8 a9 a10 a11 a12 a13 a14 a15 o_n o_all o_made o_own0 o_own1 o_threatMany o_length o_holes o_tellings o_game o_near o_kept o_isKept o_threatOf o_threatSet o_text o_far o_back o_hole o_isWon o_won o_lasts o_power o_told) s.heap.size = A at hD hN ⊢
  have hA : ∀ q : Nat, s.heap.size ≤ q → A q := fun q h => by rw [← hAe]; exact Or.inr h
  have hS : va_S A s.heap s.heap [] := va_S.rf
  have hx := hc.1
  have hb := hc.2.1
  have hown := hc.2.2.2.2.1
  have hts := hc.2.2.2.2.2.1
  refine en_F rfl (fun ls hl => ?_)
  have hl : lv_has ls 2 [(0, .ref a0)] := hl
  refine lv_aload_n hx hb dX6_faultAside_0 rfl (lv_at hl 0 rfl) ?_
  obtain ⟨u1, hu1, hf⟩ := bind_some hf
  refine wcVi (A := A) (wc := wX6 C a0 a1 a2 a3 a4 a5 a6 a7 a8 a9 a10 a11 a12 a13 a14 a15 o_n o_all o_made o_own0 o_own1 o_threatMany o_length o_holes o_tellings o_game o_near o_kept o_isKept o_threatOf o_threatSet o_text o_far o_back o_hole o_isWon o_won o_lasts o_power o_told) (w1 := wX6 C a0 a1 a2 a3 a4 a5 a6 a7 a8 a9 a10 a11 a12 a13 a14 a15 o_n o_all o_made u1.2.1 u1.2.2.1 o_threatMany o_length o_holes u1.2.2.2.1 o_game o_near o_kept o_isKept o_threatOf o_threatSet o_text o_far o_back o_hole o_isWon o_won o_lasts o_power u1.2.2.2.2) (rc := []) (As := []) (rest := []) hc k_X6_266 (c_X6_faultOf l D C _ a0 a1 a2 a3 a4 a5 a6 a7 a8 a9 a10 a11 a12 a13 a14 a15 o_n o_all o_made o_own0 o_own1 o_threatMany o_length o_holes o_tellings o_game o_near o_kept o_isKept o_threatOf o_threatSet o_text o_far o_back o_hole o_isWon o_won o_lasts o_power o_told  _ hu1) ⟨rfl, rfl, Nat.le_of_ble_eq_true rfl, Nat.le_of_ble_eq_true rfl⟩ hP hD hS hA hK [0, 1, 2, 3, 4, 5, 6, 7, 8, 9, 10, 11, 12, 13, 14, 15] [] rfl rfl rfl rfl (by decide) (hP.sub [] rfl) Ap_nil (q0 := 0) rfl rfl rfl hl rfl rfl (Nat.le_of_ble_eq_true rfl) ⟨Nat.zero_le _, Nat.zero_le _⟩ dX6_faultAside_1 (fun H locs hP hD hS => ?_)
  have hP : va_P D vwCl (wX6 C a0 a1 a2 a3 a4 a5 a6 a7 a8 a9 a10 a11 a12 a13 a14 a15 o_n o_all o_made u1.2.1 u1.2.2.1 o_threatMany o_length o_holes u1.2.2.2.1 o_game o_near o_kept o_isKept o_threatOf o_threatSet o_text o_far o_back o_hole o_isWon o_won o_lasts o_power u1.2.2.2.2) H := hP.sub [0, 1, 2, 3, 4, 5, 6, 7, 8, 9, 10, 11, 12, 13, 14, 15] rfl
  have hD : va_D A (wX6 C a0 a1 a2 a3 a4 a5 a6 a7 a8 a9 a10 a11 a12 a13 a14 a15 o_n o_all o_made u1.2.1 u1.2.2.1 o_threatMany o_length o_holes u1.2.2.2.1 o_game o_near o_kept o_isKept o_threatOf o_threatSet o_text o_far o_back o_hole o_isWon o_won o_lasts o_power u1.2.2.2.2) := hD.sub [0, 1, 2, 3, 4, 5, 6, 7, 8, 9, 10, 11, 12, 13, 14, 15] rfl rfl
  refine lv_istore_n (lv' := [(1, .int u1.1), (0, .ref a0)]) hx hb dX6_faultAside_4 rfl hl (by decide) rfl (fun ls hl => ?_)
  refine lv_aload_n hx hb dX6_faultAside_5 rfl (lv_at hl 1 rfl) ?_
  refine lv_aload_n hx hb dX6_faultAside_6 rfl (lv_at hl 1 rfl) ?_
  refine va_get (D := D) (ci := 6) (v := .int o_made) (C := RX6) (T := TX6) (N := 24) hx hb hts inX6 hown hK hP 0 rfl rfl 3 (by decide) (hts _ q_657) (fun _ h9 => h9) rfl dX6_faultAside_7 ?_
  obtain ⟨u2, hu2, hf⟩ := bind_some hf
  refine wcVv (A := A) (wc := wX6 C a0 a1 a2 a3 a4 a5 a6 a7 a8 a9 a10 a11 a12 a13 a14 a15 o_n o_all o_made u1.2.1 u1.2.2.1 o_threatMany o_length o_holes u1.2.2.2.1 o_game o_near o_kept o_isKept o_threatOf o_threatSet o_text o_far o_back o_hole o_isWon o_won o_lasts o_power u1.2.2.2.2) (w1 := wX6 C a0 a1 a2 a3 a4 a5 a6 a7 a8 a9 a10 a11 a12 a13 a14 a15 o_n o_all o_made u2.1 u2.2 o_threatMany o_length o_holes u1.2.2.2.1 o_game o_near o_kept o_isKept o_threatOf o_threatSet o_text o_far o_back o_hole o_isWon o_won o_lasts o_power u1.2.2.2.2) (rc := []) (As := [.int o_made]) (rest := []) hc k_X6_115 (c_X6_goes l D C _ a0 a1 a2 a3 a4 a5 a6 a7 a8 a9 a10 a11 a12 a13 a14 a15 o_n o_all o_made u1.2.1 u1.2.2.1 o_threatMany o_length o_holes u1.2.2.2.1 o_game o_near o_kept o_isKept o_threatOf o_threatSet o_text o_far o_back o_hole o_isWon o_won o_lasts o_power u1.2.2.2.2 o_made  _ hu2) ⟨rfl, rfl, Nat.le_of_ble_eq_true rfl, Nat.le_of_ble_eq_true rfl⟩ hP hD hS hA hK [0, 1, 2, 3, 4, 5, 6, 7, 8, 9, 10, 11, 12, 13, 14, 15] [] rfl rfl rfl rfl (by decide) (hP.sub [] rfl) Ap_nil (q0 := 0) rfl rfl rfl hl rfl rfl (Nat.le_of_ble_eq_true rfl) ⟨Nat.zero_le _, Nat.zero_le _⟩ dX6_faultAside_10 (fun H locs hP hD hS => ?_)
  have hP : va_P D vwCl (wX6 C a0 a1 a2 a3 a4 a5 a6 a7 a8 a9 a10 a11 a12 a13 a14 a15 o_n o_all o_made u2.1 u2.2 o_threatMany o_length o_holes u1.2.2.2.1 o_game o_near o_kept o_isKept o_threatOf o_threatSet o_text o_far o_back o_hole o_isWon o_won o_lasts o_power u1.2.2.2.2) H := hP.sub [0, 1, 2, 3, 4, 5, 6, 7, 8, 9, 10, 11, 12, 13, 14, 15] rfl
  have hD : va_D A (wX6 C a0 a1 a2 a3 a4 a5 a6 a7 a8 a9 a10 a11 a12 a13 a14 a15 o_n o_all o_made u2.1 u2.2 o_threatMany o_length o_holes u1.2.2.2.1 o_game o_near o_kept o_isKept o_threatOf o_threatSet o_text o_far o_back o_hole o_isWon o_won o_lasts o_power u1.2.2.2.2) := hD.sub [0, 1, 2, 3, 4, 5, 6, 7, 8, 9, 10, 11, 12, 13, 14, 15] rfl rfl
  refine lv_iload_n hx hb dX6_faultAside_13 rfl (lv_at hl 0 rfl) ?_
  have hf := Option.some.inj hf
  subst hf
  exact rWi hc rfl hP hD hS dX6_faultAside_14
abbrev R_X6_faultPosition : Room := { frames := 7, cells := 0, slots := 0, locals := 163 }
def m_X6_faultPosition (o_n : Int32) (o_made : Int32) (o_length : Int32) (o_game : Nat → Int32) (o_near : Nat → Int64) (o_text : Nat → Int32) (o_told : Nat → Int32) : Option (Int32 × Int64 × Int64 × Int32 × (Nat → Int32)) := ((m_X6_faultAside o_n o_made o_length o_game o_near o_text o_told).bind fun u1 => (if 0 ≤ u1.1 then some (u1.1, u1.2.1, u1.2.2.1, u1.2.2.2.1, u1.2.2.2.2) else some ((-15 : Int32), u1.2.1, u1.2.2.1, u1.2.2.2.1, u1.2.2.2.2)))
set_option maxHeartbeats 4000000 in
set_option maxRecDepth 100000 in
theorem c_X6_faultPosition (l : Launch) (D : va_G) (C : Nat → ClassId) (sz : Nat) (a0 : Nat) (a1 : Nat) (a2 : Nat) (a3 : Nat) (a4 : Nat) (a5 : Nat) (a6 : Nat) (a7 : Nat) (a8 : Nat) (a9 : Nat) (a10 : Nat) (a11 : Nat) (a12 : Nat) (a13 : Nat) (a14 : Nat) (a15 : Nat) (o_n : Int32) (o_all : Int32) (o_made : Int32) (o_own0 : Int64) (o_own1 : Int64) (o_threatMany : Int32) (o_length : Int32) (o_holes : Int32) (o_tellings : Int32) (o_game : Nat → Int32) (o_near : Nat → Int64) (o_kept : Nat → Int32) (o_isKept : Nat → Int32) (o_threatOf : Nat → Int32) (o_threatSet : Nat → Int64) (o_text : Nat → Int32) (o_far : Nat → Int32) (o_back : Nat → Int32) (o_hole : Nat → Int32) (o_isWon : Nat → Int32) (o_won : Nat → Int32) (o_lasts : Nat → Int32) (o_power : Nat → Int32) (o_told : Nat → Int32) (o : Int32 × Int64 × Int64 × Int32 × (Nat → Int32)) (hf : m_X6_faultPosition o_n o_made o_length o_game o_near o_text o_told = some o) : Met l yX6_faultPosition (wl yX6_faultPosition cX6_faultPosition 2 (some .int)) R_X6_faultPosition (PW [.ref a0] D C sz (wX6 C a0 a1 a2 a3 a4 a5 a6 a7 a8 a9 a10 a11 a12 a13 a14 a15 o_n o_all o_made o_own0 o_own1 o_threatMany o_length o_holes o_tellings o_game o_near o_kept o_isKept o_threatOf o_threatSet o_text o_far o_back o_hole o_isWon o_won o_lasts o_power o_told) ([] : va_W)) (QWi D o.1 (wX6 C a0 a1 a2 a3 a4 a5 a6 a7 a8 a9 a10 a11 a12 a13 a14 a15 o_n o_all o_made o.2.1 o.2.2.1 o_threatMany o_length o_holes o.2.2.2.1 o_game o_near o_kept o_isKept o_threatOf o_threatSet o_text o_far o_back o_hole o_isWon o_won o_lasts o_power o.2.2.2.2) (va_A (wX6 C a0 a1 a2 a3 a4 a5 a6 a7 a8 a9 a10 a11 a12 a13 a14 a15 o_n o_all o_made o_own0 o_own1 o_threatMany o_length o_holes o_tellings o_game o_near o_kept o_isKept o_threatOf o_threatSet o_text o_far o_back o_hole o_isWon o_won o_lasts o_power o_told) sz)) 0 0 (va_A (wX6 C a0 a1 a2 a3 a4 a5 a6 a7 a8 a9 a10 a11 a12 a13 a14 a15 o_n o_all o_made o_own0 o_own1 o_threatMany o_length o_holes o_tellings o_game o_near o_kept o_isKept o_threatOf o_threatSet o_text o_far o_back o_hole o_isWon o_won o_lasts o_power o_told) sz) := by
  refine Met_ofC (by decide) ?_
  intro p e s m args below meth c hc hv
  obtain ⟨rfl, hsz, hP, hK, hD0, hO, hN0⟩ := hv
  subst hsz
  have hD := hD0.self (sz := s.heap.size)
  have hN : ∀ q ∈ ([] : va_W), ¬ va_A (wX6 C a0 a1 a2 a3 a4 a5 a6 a7 a8 a9 a10 a11 a12 a13 a14 a15 o_n o_all o_made o_own0 o_own1 o_threatMany o_length o_holes o_tellings o_game o_near o_kept o_isKept o_threatOf o_threatSet o_text o_far o_back o_hole o_isWon o_won o_lasts o_power o_told) s.heap.size q.1 := hN0
  generalize hAe : va_A (wX6 C a0 a1 a2 a3 a4 a5 a6 a7 a8 a9 a10 a11 a12 a13 a14 a15 o_n o_all o_made o_own0 o_own1 o_threatMany o_length o_holes o_tellings o_game o_near o_kept o_isKept o_threatOf o_threatSet o_text o_far o_back o_hole o_isWon o_won o_lasts o_power o_told) s.heap.size = A at hD hN ⊢
  have hA : ∀ q : Nat, s.heap.size ≤ q → A q := fun q h => by rw [← hAe]; exact Or.inr h
  have hS : va_S A s.heap s.heap [] := va_S.rf
  have hx := hc.1
  have hb := hc.2.1
  have hown := hc.2.2.2.2.1
  have hts := hc.2.2.2.2.2.1
  refine en_F rfl (fun ls hl => ?_)
  have hl : lv_has ls 2 [(0, .ref a0)] := hl
  refine lv_aload_n hx hb dX6_faultPosition_0 rfl (lv_at hl 0 rfl) ?_
  obtain ⟨u1, hu1, hf⟩ := bind_some hf
  refine wcVi (A := A) (wc := wX6 C a0 a1 a2 a3 a4 a5 a6 a7 a8 a9 a10 a11 a12 a13 a14 a15 o_n o_all o_made o_own0 o_own1 o_threatMany o_length o_holes o_tellings o_game o_near o_kept o_isKept o_threatOf o_threatSet o_text o_far o_back o_hole o_isWon o_won o_lasts o_power o_told) (w1 := wX6 C a0 a1 a2 a3 a4 a5 a6 a7 a8 a9 a10 a11 a12 a13 a14 a15 o_n o_all o_made u1.2.1 u1.2.2.1 o_threatMany o_length o_holes u1.2.2.2.1 o_game o_near o_kept o_isKept o_threatOf o_threatSet o_text o_far o_back o_hole o_isWon o_won o_lasts o_power u1.2.2.2.2) (rc := []) (As := []) (rest := []) hc k_X6_269 (c_X6_faultAside l D C _ a0 a1 a2 a3 a4 a5 a6 a7 a8 a9 a10 a11 a12 a13 a14 a15 o_n o_all o_made o_own0 o_own1 o_threatMany o_length o_holes o_tellings o_game o_near o_kept o_isKept o_threatOf o_threatSet o_text o_far o_back o_hole o_isWon o_won o_lasts o_power o_told  _ hu1) ⟨rfl, rfl, Nat.le_of_ble_eq_true rfl, Nat.le_of_ble_eq_true rfl⟩ hP hD hS hA hK [0, 1, 2, 3, 4, 5, 6, 7, 8, 9, 10, 11, 12, 13, 14, 15] [] rfl rfl rfl rfl (by decide) (hP.sub [] rfl) Ap_nil (q0 := 0) rfl rfl rfl hl rfl rfl (Nat.le_of_ble_eq_true rfl) ⟨Nat.zero_le _, Nat.zero_le _⟩ dX6_faultPosition_1 (fun H locs hP hD hS => ?_)
  have hP : va_P D vwCl (wX6 C a0 a1 a2 a3 a4 a5 a6 a7 a8 a9 a10 a11 a12 a13 a14 a15 o_n o_all o_made u1.2.1 u1.2.2.1 o_threatMany o_length o_holes u1.2.2.2.1 o_game o_near o_kept o_isKept o_threatOf o_threatSet o_text o_far o_back o_hole o_isWon o_won o_lasts o_power u1.2.2.2.2) H := hP.sub [0, 1, 2, 3, 4, 5, 6, 7, 8, 9, 10, 11, 12, 13, 14, 15] rfl
  have hD : va_D A (wX6 C a0 a1 a2 a3 a4 a5 a6 a7 a8 a9 a10 a11 a12 a13 a14 a15 o_n o_all o_made u1.2.1 u1.2.2.1 o_threatMany o_length o_holes u1.2.2.2.1 o_game o_near o_kept o_isKept o_threatOf o_threatSet o_text o_far o_back o_hole o_isWon o_won o_lasts o_power u1.2.2.2.2) := hD.sub [0, 1, 2, 3, 4, 5, 6, 7, 8, 9, 10, 11, 12, 13, 14, 15] rfl rfl
  refine lv_istore_n (lv' := [(1, .int u1.1), (0, .ref a0)]) hx hb dX6_faultPosition_4 rfl hl (by decide) rfl (fun ls hl => ?_)
  refine lv_iload_n hx hb dX6_faultPosition_5 rfl (lv_at hl 0 rfl) ?_
  refine lv_if_ge (tgt := 14) hx hb dX6_faultPosition_6 (by decide) (fun c2 => ?_) (fun c2 => ?_)
  · have hf := if_t hf c2
    refine lv_iload_n hx hb dX6_faultPosition_14 rfl (lv_at hl 0 rfl) ?_
    have hf := Option.some.inj hf
    subst hf
    exact rWi hc rfl hP hD hS dX6_faultPosition_15
  · have hf := if_f hf c2
    refine lv_bipush (v := (-15 : Int32)) hx hb dX6_faultPosition_9 (by decide) ?_
    refine lv_goto (tgt := 15) hx hb dX6_faultPosition_11 (by decide) ?_
    have hf := Option.some.inj hf
    subst hf
    exact rWi hc rfl hP hD hS dX6_faultPosition_15
abbrev R_X6_read : Room := { frames := 7, cells := 0, slots := 0, locals := 163 }
def m_X6_read_c12 (o_n : Int32)  : Nat → Int32 → Int32 → Int32 → Int64 → Int64 → Int32 → Int32 → (Nat → Int32) → (Nat → Int32) → Option (Int32 × Int32 × Int32 × Int64 × Int64 × Int32 × Int32 × (Nat → Int32) × (Nat → Int32))
  | 0, _, _, _, _, _, _, _, _, _ => none
  | n + 1, v1, o_all, o_made, o_own0, o_own1, o_threatMany, o_tellings, o_game, o_told => (if o_tellings ≤ v1 then ((m_X6_goes o_n o_game o_tellings).bind fun u4 => some (o_tellings, o_tellings, o_tellings, u4.1, u4.2, (0 : Int32), o_tellings, o_game, o_told)) else (if okI v1 64 = true then (if okI v1 64 = true then (m_X6_read_c12 o_n  n (v1 + (1 : Int32)) o_all o_made o_own0 o_own1 o_threatMany o_tellings (upd o_game v1.toNatClampNeg (o_told v1.toNatClampNeg)) o_told) else none) else none))
set_option maxHeartbeats 4000000 in
set_option maxRecDepth 100000 in
theorem w_X6_read_c12 {p : Program} {l : Launch} {e : Env} {s : State} {m : MethodId} {args : Array Value} {below : List Frame} {meth : Method} {c : Code} {D : va_G} {C : Nat → ClassId} {A : Nat → Prop} {a0 : Nat} {a1 : Nat} {a2 : Nat} {a3 : Nat} {a4 : Nat} {a5 : Nat} {a6 : Nat} {a7 : Nat} {a8 : Nat} {a9 : Nat} {a10 : Nat} {a11 : Nat} {a12 : Nat} {a13 : Nat} {a14 : Nat} {a15 : Nat} {o_n : Int32} {o_length : Int32} {o_holes : Int32} {o_near : Nat → Int64} {o_kept : Nat → Int32} {o_isKept : Nat → Int32} {o_threatOf : Nat → Int32} {o_threatSet : Nat → Int64} {o_text : Nat → Int32} {o_far : Nat → Int32} {o_back : Nat → Int32} {o_hole : Nat → Int32} {o_isWon : Nat → Int32} {o_won : Nat → Int32} {o_lasts : Nat → Int32} {o_power : Nat → Int32} {o : Int32 × Int32 × Int32 × Int64 × Int64 × Int32 × Int32 × (Nat → Int32) × (Nat → Int32)} (hc : Cx p s m args meth c yX6_read cX6_read 2 (some .int)) (hK : va_K D vwCl (TY C) s) (hA : ∀ q : Nat, s.heap.size ≤ q → A q) (hO : va_P D vwCl ([] : va_W) s.heap) (hN : ∀ q ∈ ([] : va_W), ¬ A q.1) : ∀ (n : Nat), ∀ (v1 : Int32) (o_all : Int32) (o_made : Int32) (o_own0 : Int64) (o_own1 : Int64) (o_threatMany : Int32) (o_tellings : Int32) (o_game : Nat → Int32) (o_told : Nat → Int32), m_X6_read_c12 o_n  n v1 o_all o_made o_own0 o_own1 o_threatMany o_tellings o_game o_told = some o → ∀ (H : Heap) (locs : List Loc), va_P D vwCl (wX6 C a0 a1 a2 a3 a4 a5 a6 a7 a8 a9 a10 a11 a12 a13 a14 a15 o_n o_all o_made o_own0 o_own1 o_threatMany o_length o_holes o_tellings o_game o_near o_kept o_isKept o_threatOf o_threatSet o_text o_far o_back o_hole o_isWon o_won o_lasts o_power o_told) H → va_D A (wX6 C a0 a1 a2 a3 a4 a5 a6 a7 a8 a9 a10 a11 a12 a13 a14 a15 o_n o_all o_made o_own0 o_own1 o_threatMany o_length o_holes o_tellings o_game o_near o_kept o_isKept o_threatOf o_threatSet o_text o_far o_back o_hole o_isWon o_won o_lasts o_power o_told) → va_S A s.heap H locs → ∀ (ls : Array Slot), lv_has ls 2 [(0, .ref a0), (1, .int v1)] → W p l e R_X6_read s m args below meth c H locs 0 0 (MQ below (QWi D o.1 (wX6 C a0 a1 a2 a3 a4 a5 a6 a7 a8 a9 a10 a11 a12 a13 a14 a15 o_n o.2.1 o.2.2.1 o.2.2.2.1 o.2.2.2.2.1 o.2.2.2.2.2.1 o_length o_holes o.2.2.2.2.2.2.1 o.2.2.2.2.2.2.2.1 o_near o_kept o_isKept o_threatOf o_threatSet o_text o_far o_back o_hole o_isWon o_won o_lasts o_power o.2.2.2.2.2.2.2.2) A) args s 0 0 A) (F0 m 12 ls []) := by
  have hx := hc.1
  have hb := hc.2.1
  have hown := hc.2.2.2.2.1
  have hts := hc.2.2.2.2.2.1
  intro n
  induction n with
  | zero =>
    intro v1 o_all o_made o_own0 o_own1 o_threatMany o_tellings o_game o_told hf
    exact no_some hf
  | succ n ih =>
    intro v1 o_all o_made o_own0 o_own1 o_threatMany o_tellings o_game o_told hf H locs hP hD hS ls hl
    refine lv_iload_n hx hb dX6_read_12 rfl (lv_at hl 1 rfl) ?_
    refine lv_aload_n hx hb dX6_read_13 rfl (lv_at hl 0 rfl) ?_
    refine va_get (D := D) (ci := 6) (v := .int o_tellings) (C := RX6) (T := TX6) (N := 24) hx hb hts inX6 hown hK hP 0 rfl rfl 23 (by decide) (hts _ q_677) (fun _ h9 => h9) rfl dX6_read_14 ?_
    refine lv_icmp_ge (tgt := 38) hx hb dX6_read_17 (by decide) (fun c3 => ?_) (fun c3 => ?_)
    · have hf := if_t hf c3
      refine lv_aload_n hx hb dX6_read_38 rfl (lv_at hl 0 rfl) ?_
      refine lv_aload_n hx hb dX6_read_39 rfl (lv_at hl 0 rfl) ?_
      refine va_get (D := D) (ci := 6) (v := .int o_tellings) (C := RX6) (T := TX6) (N := 24) hx hb hts inX6 hown hK hP 0 rfl rfl 23 (by decide) (hts _ q_677) (fun _ h9 => h9) rfl dX6_read_40 ?_
      refine va_put (D := D) (ci := 6) (v := .int o_tellings) (ty := .int) (C := RX6) (T := TX6) (N := 24) hx hb hts inX6 tyX6 tyX6_ok nmX6 hown hK hP hD hS 0 rfl rfl 3 (by decide) (hts _ q_657) (fun _ h9 => h9) rfl (by decide +kernel) rfl rfl (Nat.le_of_ble_eq_true rfl) dX6_read_43 (fun H locs hP hD hS => ?_)
      have hP : va_P D vwCl (wX6 C a0 a1 a2 a3 a4 a5 a6 a7 a8 a9 a10 a11 a12 a13 a14 a15 o_n o_all o_tellings o_own0 o_own1 o_threatMany o_length o_holes o_tellings o_game o_near o_kept o_isKept o_threatOf o_threatSet o_text o_far o_back o_hole o_isWon o_won o_lasts o_power o_told) H := hP
      have hD : va_D A (wX6 C a0 a1 a2 a3 a4 a5 a6 a7 a8 a9 a10 a11 a12 a13 a14 a15 o_n o_all o_tellings o_own0 o_own1 o_threatMany o_length o_holes o_tellings o_game o_near o_kept o_isKept o_threatOf o_threatSet o_text o_far o_back o_hole o_isWon o_won o_lasts o_power o_told) := hD
      refine lv_aload_n hx hb dX6_read_46 rfl (lv_at hl 0 rfl) ?_
      refine lv_aload_n hx hb dX6_read_47 rfl (lv_at hl 0 rfl) ?_
      refine va_get (D := D) (ci := 6) (v := .int o_tellings) (C := RX6) (T := TX6) (N := 24) hx hb hts inX6 hown hK hP 0 rfl rfl 23 (by decide) (hts _ q_677) (fun _ h9 => h9) rfl dX6_read_48 ?_
      refine va_put (D := D) (ci := 6) (v := .int o_tellings) (ty := .int) (C := RX6) (T := TX6) (N := 24) hx hb hts inX6 tyX6 tyX6_ok nmX6 hown hK hP hD hS 0 rfl rfl 2 (by decide) (hts _ q_656) (fun _ h9 => h9) rfl (by decide +kernel) rfl rfl (Nat.le_of_ble_eq_true rfl) dX6_read_51 (fun H locs hP hD hS => ?_)
      have hP : va_P D vwCl (wX6 C a0 a1 a2 a3 a4 a5 a6 a7 a8 a9 a10 a11 a12 a13 a14 a15 o_n o_tellings o_tellings o_own0 o_own1 o_threatMany o_length o_holes o_tellings o_game o_near o_kept o_isKept o_threatOf o_threatSet o_text o_far o_back o_hole o_isWon o_won o_lasts o_power o_told) H := hP
      have hD : va_D A (wX6 C a0 a1 a2 a3 a4 a5 a6 a7 a8 a9 a10 a11 a12 a13 a14 a15 o_n o_tellings o_tellings o_own0 o_own1 o_threatMany o_length o_holes o_tellings o_game o_near o_kept o_isKept o_threatOf o_threatSet o_text o_far o_back o_hole o_isWon o_won o_lasts o_power o_told) := hD
      refine lv_aload_n hx hb dX6_read_54 rfl (lv_at hl 0 rfl) ?_
      refine lv_aload_n hx hb dX6_read_55 rfl (lv_at hl 0 rfl) ?_
      refine va_get (D := D) (ci := 6) (v := .int o_tellings) (C := RX6) (T := TX6) (N := 24) hx hb hts inX6 hown hK hP 0 rfl rfl 3 (by decide) (hts _ q_657) (fun _ h9 => h9) rfl dX6_read_56 ?_
      obtain ⟨u4, hu4, hf⟩ := bind_some hf
      refine wcVv (A := A) (wc := wX6 C a0 a1 a2 a3 a4 a5 a6 a7 a8 a9 a10 a11 a12 a13 a14 a15 o_n o_tellings o_tellings o_own0 o_own1 o_threatMany o_length o_holes o_tellings o_game o_near o_kept o_isKept o_threatOf o_threatSet o_text o_far o_back o_hole o_isWon o_won o_lasts o_power o_told) (w1 := wX6 C a0 a1 a2 a3 a4 a5 a6 a7 a8 a9 a10 a11 a12 a13 a14 a15 o_n o_tellings o_tellings u4.1 u4.2 o_threatMany o_length o_holes o_tellings o_game o_near o_kept o_isKept o_threatOf o_threatSet o_text o_far o_back o_hole o_isWon o_won o_lasts o_power o_told) (rc := []) (As := [.int o_tellings]) (rest := []) hc k_X6_115 (c_X6_goes l D C _ a0 a1 a2 a3 a4 a5 a6 a7 a8 a9 a10 a11 a12 a13 a14 a15 o_n o_tellings o_tellings o_own0 o_own1 o_threatMany o_length o_holes o_tellings o_game o_near o_kept o_isKept o_threatOf o_threatSet o_text o_far o_back o_hole o_isWon o_won o_lasts o_power o_told o_tellings  _ hu4) ⟨rfl, rfl, Nat.le_of_ble_eq_true rfl, Nat.le_of_ble_eq_true rfl⟩ hP hD hS hA hK [0, 1, 2, 3, 4, 5, 6, 7, 8, 9, 10, 11, 12, 13, 14, 15] [] rfl rfl rfl rfl (by decide) (hP.sub [] rfl) Ap_nil (q0 := 0) rfl rfl rfl hl rfl rfl (Nat.le_of_ble_eq_true rfl) ⟨Nat.zero_le _, Nat.zero_le _⟩ dX6_read_59 (fun H locs hP hD hS => ?_)
      have hP : va_P D vwCl (wX6 C a0 a1 a2 a3 a4 a5 a6 a7 a8 a9 a10 a11 a12 a13 a14 a15 o_n o_tellings o_tellings u4.1 u4.2 o_threatMany o_length o_holes o_tellings o_game o_near o_kept o_isKept o_threatOf o_threatSet o_text o_far o_back o_hole o_isWon o_won o_lasts o_power o_told) H := hP.sub [0, 1, 2, 3, 4, 5, 6, 7, 8, 9, 10, 11, 12, 13, 14, 15] rfl
      have hD : va_D A (wX6 C a0 a1 a2 a3 a4 a5 a6 a7 a8 a9 a10 a11 a12 a13 a14 a15 o_n o_tellings o_tellings u4.1 u4.2 o_threatMany o_length o_holes o_tellings o_game o_near o_kept o_isKept o_threatOf o_threatSet o_text o_far o_back o_hole o_isWon o_won o_lasts o_power o_told) := hD.sub [0, 1, 2, 3, 4, 5, 6, 7, 8, 9, 10, 11, 12, 13, 14, 15] rfl rfl
      refine lv_aload_n hx hb dX6_read_62 rfl (lv_at hl 0 rfl) ?_
      refine lv_iconst (v := (0 : Int32)) hx hb dX6_read_63 (by decide) ?_
      refine va_put (D := D) (ci := 6) (v := .int (0 : Int32)) (ty := .int) (C := RX6) (T := TX6) (N := 24) hx hb hts inX6 tyX6 tyX6_ok nmX6 hown hK hP hD hS 0 rfl rfl 11 (by decide) (hts _ q_665) (fun _ h9 => h9) rfl (by decide +kernel) rfl rfl (Nat.le_of_ble_eq_true rfl) dX6_read_64 (fun H locs hP hD hS => ?_)
      have hP : va_P D vwCl (wX6 C a0 a1 a2 a3 a4 a5 a6 a7 a8 a9 a10 a11 a12 a13 a14 a15 o_n o_tellings o_tellings u4.1 u4.2 (0 : Int32) o_length o_holes o_tellings o_game o_near o_kept o_isKept o_threatOf o_threatSet o_text o_far o_back o_hole o_isWon o_won o_lasts o_power o_told) H := hP
      have hD : va_D A (wX6 C a0 a1 a2 a3 a4 a5 a6 a7 a8 a9 a10 a11 a12 a13 a14 a15 o_n o_tellings o_tellings u4.1 u4.2 (0 : Int32) o_length o_holes o_tellings o_game o_near o_kept o_isKept o_threatOf o_threatSet o_text o_far o_back o_hole o_isWon o_won o_lasts o_power o_told) := hD
      refine lv_aload_n hx hb dX6_read_67 rfl (lv_at hl 0 rfl) ?_
      refine va_get (D := D) (ci := 6) (v := .int o_tellings) (C := RX6) (T := TX6) (N := 24) hx hb hts inX6 hown hK hP 0 rfl rfl 3 (by decide) (hts _ q_657) (fun _ h9 => h9) rfl dX6_read_68 ?_
      have hf := Option.some.inj hf
      subst hf
      exact rWi hc rfl hP hD hS dX6_read_71
    · have hf := if_f hf c3
      refine lv_aload_n hx hb dX6_read_20 rfl (lv_at hl 0 rfl) ?_
      refine va_get (D := D) (ci := 6) (v := .ref a1) (C := RX6) (T := TX6) (N := 24) hx hb hts inX6 hown hK hP 0 rfl rfl 1 (by decide) (hts _ q_655) (fun _ h9 => h9) rfl dX6_read_21 ?_
      refine lv_iload_n hx hb dX6_read_24 rfl (lv_at hl 1 rfl) ?_
      refine lv_aload_n hx hb dX6_read_25 rfl (lv_at hl 0 rfl) ?_
      refine va_get (D := D) (ci := 6) (v := .ref a15) (C := RX6) (T := TX6) (N := 24) hx hb hts inX6 hown hK hP 0 rfl rfl 22 (by decide) (hts _ q_676) (fun _ h9 => h9) rfl dX6_read_26 ?_
      refine lv_iload_n hx hb dX6_read_29 rfl (lv_at hl 1 rfl) ?_
      obtain ⟨h5, hf⟩ := ok_t hf
      refine va_iald hx hb hK hP 15 0 rfl rfl (okI_in h5) dX6_read_30 ?_
      obtain ⟨h6, hf⟩ := ok_t hf
      refine va_iast hx hb hK hP hD hS 1 0 rfl rfl (okI_in h6) dX6_read_31 (fun H locs hP hD hS => ?_)
      have hP : va_P D vwCl (wX6 C a0 a1 a2 a3 a4 a5 a6 a7 a8 a9 a10 a11 a12 a13 a14 a15 o_n o_all o_made o_own0 o_own1 o_threatMany o_length o_holes o_tellings (upd o_game v1.toNatClampNeg (o_told v1.toNatClampNeg)) o_near o_kept o_isKept o_threatOf o_threatSet o_text o_far o_back o_hole o_isWon o_won o_lasts o_power o_told) H := hP
      have hD : va_D A (wX6 C a0 a1 a2 a3 a4 a5 a6 a7 a8 a9 a10 a11 a12 a13 a14 a15 o_n o_all o_made o_own0 o_own1 o_threatMany o_length o_holes o_tellings (upd o_game v1.toNatClampNeg (o_told v1.toNatClampNeg)) o_near o_kept o_isKept o_threatOf o_threatSet o_text o_far o_back o_hole o_isWon o_won o_lasts o_power o_told) := hD
      refine lv_iinc (v := (v1 + (1 : Int32))) (lv' := [(1, .int (v1 + (1 : Int32))), (0, .ref a0)]) hx hb dX6_read_32 hl (k := 1) rfl rfl (by decide) rfl (fun ls hl => ?_)
      refine lv_goto (tgt := 12) hx hb dX6_read_35 (by decide) ?_
      exact ih (v1 + (1 : Int32)) o_all o_made o_own0 o_own1 o_threatMany o_tellings (upd o_game v1.toNatClampNeg (o_told v1.toNatClampNeg)) o_told hf _ _ hP hD hS ls (lv_sub hl [1, 0] rfl)
def m_X6_read (o_n : Int32) (o_all : Int32) (o_made : Int32) (o_threatMany : Int32) (o_length : Int32) (o_game : Nat → Int32) (o_near : Nat → Int64) (o_text : Nat → Int32) (o_told : Nat → Int32) : Option (Int32 × Int32 × Int32 × Int64 × Int64 × Int32 × Int32 × (Nat → Int32) × (Nat → Int32)) := ((m_X6_faultAside o_n o_made o_length o_game o_near o_text o_told).bind fun u1 => (if u1.1 < 0 then (m_X6_read_c12 o_n FU (0 : Int32) o_all o_made u1.2.1 u1.2.2.1 o_threatMany u1.2.2.2.1 o_game u1.2.2.2.2) else some ((-13 : Int32), o_all, o_made, u1.2.1, u1.2.2.1, o_threatMany, u1.2.2.2.1, o_game, u1.2.2.2.2)))
set_option maxHeartbeats 4000000 in
set_option maxRecDepth 100000 in
theorem c_X6_read (l : Launch) (D : va_G) (C : Nat → ClassId) (sz : Nat) (a0 : Nat) (a1 : Nat) (a2 : Nat) (a3 : Nat) (a4 : Nat) (a5 : Nat) (a6 : Nat) (a7 : Nat) (a8 : Nat) (a9 : Nat) (a10 : Nat) (a11 : Nat) (a12 : Nat) (a13 : Nat) (a14 : Nat) (a15 : Nat) (o_n : Int32) (o_all : Int32) (o_made : Int32) (o_own0 : Int64) (o_own1 : Int64) (o_threatMany : Int32) (o_length : Int32) (o_holes : Int32) (o_tellings : Int32) (o_game : Nat → Int32) (o_near : Nat → Int64) (o_kept : Nat → Int32) (o_isKept : Nat → Int32) (o_threatOf : Nat → Int32) (o_threatSet : Nat → Int64) (o_text : Nat → Int32) (o_far : Nat → Int32) (o_back : Nat → Int32) (o_hole : Nat → Int32) (o_isWon : Nat → Int32) (o_won : Nat → Int32) (o_lasts : Nat → Int32) (o_power : Nat → Int32) (o_told : Nat → Int32) (o : Int32 × Int32 × Int32 × Int64 × Int64 × Int32 × Int32 × (Nat → Int32) × (Nat → Int32)) (hf : m_X6_read o_n o_all o_made o_threatMany o_length o_game o_near o_text o_told = some o) : Met l yX6_read (wl yX6_read cX6_read 2 (some .int)) R_X6_read (PW [.ref a0] D C sz (wX6 C a0 a1 a2 a3 a4 a5 a6 a7 a8 a9 a10 a11 a12 a13 a14 a15 o_n o_all o_made o_own0 o_own1 o_threatMany o_length o_holes o_tellings o_game o_near o_kept o_isKept o_threatOf o_threatSet o_text o_far o_back o_hole o_isWon o_won o_lasts o_power o_told) ([] : va_W)) (QWi D o.1 (wX6 C a0 a1 a2 a3 a4 a5 a6 a7 a8 a9 a10 a11 a12 a13 a14 a15 o_n o.2.1 o.2.2.1 o.2.2.2.1 o.2.2.2.2.1 o.2.2.2.2.2.1 o_length o_holes o.2.2.2.2.2.2.1 o.2.2.2.2.2.2.2.1 o_near o_kept o_isKept o_threatOf o_threatSet o_text o_far o_back o_hole o_isWon o_won o_lasts o_power o.2.2.2.2.2.2.2.2) (va_A (wX6 C a0 a1 a2 a3 a4 a5 a6 a7 a8 a9 a10 a11 a12 a13 a14 a15 o_n o_all o_made o_own0 o_own1 o_threatMany o_length o_holes o_tellings o_game o_near o_kept o_isKept o_threatOf o_threatSet o_text o_far o_back o_hole o_isWon o_won o_lasts o_power o_told) sz)) 0 0 (va_A (wX6 C a0 a1 a2 a3 a4 a5 a6 a7 a8 a9 a10 a11 a12 a13 a14 a15 o_n o_all o_made o_own0 o_own1 o_threatMany o_length o_holes o_tellings o_game o_near o_kept o_isKept o_threatOf o_threatSet o_text o_far o_back o_hole o_isWon o_won o_lasts o_power o_told) sz) := by
  refine Met_ofC (by decide) ?_
  intro p e s m args below meth c hc hv
  obtain ⟨rfl, hsz, hP, hK, hD0, hO, hN0⟩ := hv
  subst hsz
  have hD := hD0.self (sz := s.heap.size)
  have hN : ∀ q ∈ ([] : va_W), ¬ va_A (wX6 C a0 a1 a2 a3 a4 a5 a6 a7 a8 a9 a10 a11 a12 a13 a14 a15 o_n o_all o_made o_own0 o_own1 o_threatMany o_length o_holes o_tellings o_game o_near o_kept o_isKept o_threatOf o_threatSet o_text o_far o_back o_hole o_isWon o_won o_lasts o_power o_told) s.heap.size q.1 := hN0
  generalize hAe : va_A (wX6 C a0 a1 a2 a3 a4 a5 a6 a7 a8 a9 a10 a11 a12 a13 a14 a15 o_n o_all o_made o_own0 o_own1 o_threatMany o_length o_holes o_tellings o_game o_near o_kept o_isKept o_threatOf o_threatSet o_text o_far o_back o_hole o_isWon o_won o_lasts o_power o_told) s.heap.size = A at hD hN ⊢
  have hA : ∀ q : Nat, s.heap.size ≤ q → A q := fun q h => by rw [← hAe]; exact Or.inr h
  have hS : va_S A s.heap s.heap [] := va_S.rf
  have hx := hc.1
  have hb := hc.2.1
  have hown := hc.2.2.2.2.1
  have hts := hc.2.2.2.2.2.1
  refine en_F rfl (fun ls hl => ?_)
  have hl : lv_has ls 2 [(0, .ref a0)] := hl
  refine lv_aload_n hx hb dX6_read_0 rfl (lv_at hl 0 rfl) ?_
  obtain ⟨u1, hu1, hf⟩ := bind_some hf
  refine wcVi (A := A) (wc := wX6 C a0 a1 a2 a3 a4 a5 a6 a7 a8 a9 a10 a11 a12 a13 a14 a15 o_n o_all o_made o_own0 o_own1 o_threatMany o_length o_holes o_tellings o_game o_near o_kept o_isKept o_threatOf o_threatSet o_text o_far o_back o_hole o_isWon o_won o_lasts o_power o_told) (w1 := wX6 C a0 a1 a2 a3 a4 a5 a6 a7 a8 a9 a10 a11 a12 a13 a14 a15 o_n o_all o_made u1.2.1 u1.2.2.1 o_threatMany o_length o_holes u1.2.2.2.1 o_game o_near o_kept o_isKept o_threatOf o_threatSet o_text o_far o_back o_hole o_isWon o_won o_lasts o_power u1.2.2.2.2) (rc := []) (As := []) (rest := []) hc k_X6_269 (c_X6_faultAside l D C _ a0 a1 a2 a3 a4 a5 a6 a7 a8 a9 a10 a11 a12 a13 a14 a15 o_n o_all o_made o_own0 o_own1 o_threatMany o_length o_holes o_tellings o_game o_near o_kept o_isKept o_threatOf o_threatSet o_text o_far o_back o_hole o_isWon o_won o_lasts o_power o_told  _ hu1) ⟨rfl, rfl, Nat.le_of_ble_eq_true rfl, Nat.le_of_ble_eq_true rfl⟩ hP hD hS hA hK [0, 1, 2, 3, 4, 5, 6, 7, 8, 9, 10, 11, 12, 13, 14, 15] [] rfl rfl rfl rfl (by decide) (hP.sub [] rfl) Ap_nil (q0 := 0) rfl rfl rfl hl rfl rfl (Nat.le_of_ble_eq_true rfl) ⟨Nat.zero_le _, Nat.zero_le _⟩ dX6_read_1 (fun H locs hP hD hS => ?_)
  have hP : va_P D vwCl (wX6 C a0 a1 a2 a3 a4 a5 a6 a7 a8 a9 a10 a11 a12 a13 a14 a15 o_n o_all o_made u1.2.1 u1.2.2.1 o_threatMany o_length o_holes u1.2.2.2.1 o_game o_near o_kept o_isKept o_threatOf o_threatSet o_text o_far o_back o_hole o_isWon o_won o_lasts o_power u1.2.2.2.2) H := hP.sub [0, 1, 2, 3, 4, 5, 6, 7, 8, 9, 10, 11, 12, 13, 14, 15] rfl
  have hD : va_D A (wX6 C a0 a1 a2 a3 a4 a5 a6 a7 a8 a9 a10 a11 a12 a13 a14 a15 o_n o_all o_made u1.2.1 u1.2.2.1 o_threatMany o_length o_holes u1.2.2.2.1 o_game o_near o_kept o_isKept o_threatOf o_threatSet o_text o_far o_back o_hole o_isWon o_won o_lasts o_power u1.2.2.2.2) := hD.sub [0, 1, 2, 3, 4, 5, 6, 7, 8, 9, 10, 11, 12, 13, 14, 15] rfl rfl
  refine lv_if_lt (tgt := 10) hx hb dX6_read_4 (by decide) (fun c2 => ?_) (fun c2 => ?_)
  · have hf := if_t hf c2
    refine lv_iconst (v := (0 : Int32)) hx hb dX6_read_10 (by decide) ?_
    refine lv_istore_n (lv' := [(1, .int (0 : Int32)), (0, .ref a0)]) hx hb dX6_read_11 rfl hl (by decide) rfl (fun ls hl => ?_)
    exact w_X6_read_c12 hc hK hA hO hN  FU (0 : Int32) o_all o_made u1.2.1 u1.2.2.1 o_threatMany u1.2.2.2.1 o_game u1.2.2.2.2 hf _ _ hP hD hS ls (lv_sub hl [1, 0] rfl)
  · have hf := if_f hf c2
    refine lv_bipush (v := (-13 : Int32)) hx hb dX6_read_7 (by decide) ?_
    have hf := Option.some.inj hf
    subst hf
    exact rWi hc rfl hP hD hS dX6_read_9
abbrev R_X6_save : Room := { frames := 1, cells := 0, slots := 0, locals := 22 }
def m_X6_save_c53 (o_all : Int32) (o_made : Int32) (o_game : Nat → Int32) (p1 : Int32)  : Nat → Int32 → Int32 → (Nat → Int32) → (Nat → Int32) → Option (Int32 × (Nat → Int32) × (Nat → Int32))
  | 0, _, _, _, _ => none
  | n + 1, v2, v3, o_kept, o_isKept => (if o_all ≤ v3 then (if okI p1 2 = true then some (o_made, o_kept, (upd o_isKept p1.toNatClampNeg (vp_nar .boolean (1 : Int32)))) else none) else (if okI v3 64 = true then (if okI ((v2 + (3 : Int32)) + v3) 140 = true then (m_X6_save_c53 o_all o_made o_game p1  n v2 (v3 + (1 : Int32)) (upd o_kept ((v2 + (3 : Int32)) + v3).toNatClampNeg (o_game v3.toNatClampNeg)) o_isKept) else none) else none))
set_option maxHeartbeats 4000000 in
set_option maxRecDepth 100000 in
theorem w_X6_save_c53 {p : Program} {l : Launch} {e : Env} {s : State} {m : MethodId} {args : Array Value} {below : List Frame} {meth : Method} {c : Code} {D : va_G} {C : Nat → ClassId} {A : Nat → Prop} {a0 : Nat} {a1 : Nat} {a2 : Nat} {a3 : Nat} {a4 : Nat} {a5 : Nat} {a6 : Nat} {a7 : Nat} {a8 : Nat} {a9 : Nat} {a10 : Nat} {a11 : Nat} {a12 : Nat} {a13 : Nat} {a14 : Nat} {a15 : Nat} {o_n : Int32} {o_all : Int32} {o_made : Int32} {o_own0 : Int64} {o_own1 : Int64} {o_threatMany : Int32} {o_length : Int32} {o_holes : Int32} {o_tellings : Int32} {o_game : Nat → Int32} {o_near : Nat → Int64} {o_threatOf : Nat → Int32} {o_threatSet : Nat → Int64} {o_text : Nat → Int32} {o_far : Nat → Int32} {o_back : Nat → Int32} {o_hole : Nat → Int32} {o_isWon : Nat → Int32} {o_won : Nat → Int32} {o_lasts : Nat → Int32} {o_power : Nat → Int32} {o_told : Nat → Int32} {p1 : Int32} {o : Int32 × (Nat → Int32) × (Nat → Int32)} (hc : Cx p s m args meth c yX6_save cX6_save 4 (some .int)) (hK : va_K D vwCl (TY C) s) (hA : ∀ q : Nat, s.heap.size ≤ q → A q) (hO : va_P D vwCl ([] : va_W) s.heap) (hN : ∀ q ∈ ([] : va_W), ¬ A q.1) : ∀ (n : Nat), ∀ (v2 : Int32) (v3 : Int32) (o_kept : Nat → Int32) (o_isKept : Nat → Int32), m_X6_save_c53 o_all o_made o_game p1  n v2 v3 o_kept o_isKept = some o → ∀ (H : Heap) (locs : List Loc), va_P D vwCl (wX6 C a0 a1 a2 a3 a4 a5 a6 a7 a8 a9 a10 a11 a12 a13 a14 a15 o_n o_all o_made o_own0 o_own1 o_threatMany o_length o_holes o_tellings o_game o_near o_kept o_isKept o_threatOf o_threatSet o_text o_far o_back o_hole o_isWon o_won o_lasts o_power o_told) H → va_D A (wX6 C a0 a1 a2 a3 a4 a5 a6 a7 a8 a9 a10 a11 a12 a13 a14 a15 o_n o_all o_made o_own0 o_own1 o_threatMany o_length o_holes o_tellings o_game o_near o_kept o_isKept o_threatOf o_threatSet o_text o_far o_back o_hole o_isWon o_won o_lasts o_power o_told) → va_S A s.heap H locs → ∀ (ls : Array Slot), lv_has ls 4 [(0, .ref a0), (1, .int p1), (2, .int v2), (3, .int v3)] → W p l e R_X6_save s m args below meth c H locs 0 0 (MQ below (QWi D o.1 (wX6 C a0 a1 a2 a3 a4 a5 a6 a7 a8 a9 a10 a11 a12 a13 a14 a15 o_n o_all o_made o_own0 o_own1 o_threatMany o_length o_holes o_tellings o_game o_near o.2.1 o.2.2 o_threatOf o_threatSet o_text o_far o_back o_hole o_isWon o_won o_lasts o_power o_told) A) args s 0 0 A) (F0 m 53 ls []) := by
  have hx := hc.1
  have hb := hc.2.1
  have hown := hc.2.2.2.2.1
  have hts := hc.2.2.2.2.2.1
  intro n
  induction n with
  | zero =>
    intro v2 v3 o_kept o_isKept hf
    exact no_some hf
  | succ n ih =>
    intro v2 v3 o_kept o_isKept hf H locs hP hD hS ls hl
    refine lv_iload_n hx hb dX6_save_53 rfl (lv_at hl 3 rfl) ?_
    refine lv_aload_n hx hb dX6_save_54 rfl (lv_at hl 0 rfl) ?_
    refine va_get (D := D) (ci := 6) (v := .int o_all) (C := RX6) (T := TX6) (N := 24) hx hb hts inX6 hown hK hP 0 rfl rfl 2 (by decide) (hts _ q_656) (fun _ h9 => h9) rfl dX6_save_55 ?_
    refine lv_icmp_ge (tgt := 83) hx hb dX6_save_58 (by decide) (fun c5 => ?_) (fun c5 => ?_)
    · have hf := if_t hf c5
      refine lv_aload_n hx hb dX6_save_83 rfl (lv_at hl 0 rfl) ?_
      refine va_get (D := D) (ci := 6) (v := .ref a4) (C := RX6) (T := TX6) (N := 24) hx hb hts inX6 hown hK hP 0 rfl rfl 8 (by decide) (hts _ q_662) (fun _ h9 => h9) rfl dX6_save_84 ?_
      refine lv_iload_n hx hb dX6_save_87 rfl (lv_at hl 1 rfl) ?_
      refine lv_iconst (v := (1 : Int32)) hx hb dX6_save_88 (by decide) ?_
      obtain ⟨h6, hf⟩ := ok_t hf
      refine va_zast hx hb hK hP hD hS 4 3 rfl rfl (okI_in h6) dX6_save_89 (fun H locs hP hD hS => ?_)
      have hP : va_P D vwCl (wX6 C a0 a1 a2 a3 a4 a5 a6 a7 a8 a9 a10 a11 a12 a13 a14 a15 o_n o_all o_made o_own0 o_own1 o_threatMany o_length o_holes o_tellings o_game o_near o_kept (upd o_isKept p1.toNatClampNeg (vp_nar .boolean (1 : Int32))) o_threatOf o_threatSet o_text o_far o_back o_hole o_isWon o_won o_lasts o_power o_told) H := hP
      have hD : va_D A (wX6 C a0 a1 a2 a3 a4 a5 a6 a7 a8 a9 a10 a11 a12 a13 a14 a15 o_n o_all o_made o_own0 o_own1 o_threatMany o_length o_holes o_tellings o_game o_near o_kept (upd o_isKept p1.toNatClampNeg (vp_nar .boolean (1 : Int32))) o_threatOf o_threatSet o_text o_far o_back o_hole o_isWon o_won o_lasts o_power o_told) := hD
      refine lv_aload_n hx hb dX6_save_90 rfl (lv_at hl 0 rfl) ?_
      refine va_get (D := D) (ci := 6) (v := .int o_made) (C := RX6) (T := TX6) (N := 24) hx hb hts inX6 hown hK hP 0 rfl rfl 3 (by decide) (hts _ q_657) (fun _ h9 => h9) rfl dX6_save_91 ?_
      have hf := Option.some.inj hf
      subst hf
      exact rWi hc rfl hP hD hS dX6_save_94
    · have hf := if_f hf c5
      refine lv_aload_n hx hb dX6_save_61 rfl (lv_at hl 0 rfl) ?_
      refine va_get (D := D) (ci := 6) (v := .ref a3) (C := RX6) (T := TX6) (N := 24) hx hb hts inX6 hown hK hP 0 rfl rfl 7 (by decide) (hts _ q_661) (fun _ h9 => h9) rfl dX6_save_62 ?_
      refine lv_iload_n hx hb dX6_save_65 rfl (lv_at hl 2 rfl) ?_
      refine lv_iconst (v := (3 : Int32)) hx hb dX6_save_66 (by decide) ?_
      refine lv_iadd hx hb dX6_save_67 ?_
      refine lv_iload_n hx hb dX6_save_68 rfl (lv_at hl 3 rfl) ?_
      refine lv_iadd hx hb dX6_save_69 ?_
      refine lv_aload_n hx hb dX6_save_70 rfl (lv_at hl 0 rfl) ?_
      refine va_get (D := D) (ci := 6) (v := .ref a1) (C := RX6) (T := TX6) (N := 24) hx hb hts inX6 hown hK hP 0 rfl rfl 1 (by decide) (hts _ q_655) (fun _ h9 => h9) rfl dX6_save_71 ?_
      refine lv_iload_n hx hb dX6_save_74 rfl (lv_at hl 3 rfl) ?_
      obtain ⟨h7, hf⟩ := ok_t hf
      refine va_iald hx hb hK hP 1 0 rfl rfl (okI_in h7) dX6_save_75 ?_
      obtain ⟨h8, hf⟩ := ok_t hf
      refine va_iast hx hb hK hP hD hS 3 0 rfl rfl (okI_in h8) dX6_save_76 (fun H locs hP hD hS => ?_)
      have hP : va_P D vwCl (wX6 C a0 a1 a2 a3 a4 a5 a6 a7 a8 a9 a10 a11 a12 a13 a14 a15 o_n o_all o_made o_own0 o_own1 o_threatMany o_length o_holes o_tellings o_game o_near (upd o_kept ((v2 + (3 : Int32)) + v3).toNatClampNeg (o_game v3.toNatClampNeg)) o_isKept o_threatOf o_threatSet o_text o_far o_back o_hole o_isWon o_won o_lasts o_power o_told) H := hP
      have hD : va_D A (wX6 C a0 a1 a2 a3 a4 a5 a6 a7 a8 a9 a10 a11 a12 a13 a14 a15 o_n o_all o_made o_own0 o_own1 o_threatMany o_length o_holes o_tellings o_game o_near (upd o_kept ((v2 + (3 : Int32)) + v3).toNatClampNeg (o_game v3.toNatClampNeg)) o_isKept o_threatOf o_threatSet o_text o_far o_back o_hole o_isWon o_won o_lasts o_power o_told) := hD
      refine lv_iinc (v := (v3 + (1 : Int32))) (lv' := [(3, .int (v3 + (1 : Int32))), (0, .ref a0), (1, .int p1), (2, .int v2)]) hx hb dX6_save_77 hl (k := 3) rfl rfl (by decide) rfl (fun ls hl => ?_)
      refine lv_goto (tgt := 53) hx hb dX6_save_80 (by decide) ?_
      exact ih v2 (v3 + (1 : Int32)) (upd o_kept ((v2 + (3 : Int32)) + v3).toNatClampNeg (o_game v3.toNatClampNeg)) o_isKept hf _ _ hP hD hS ls (lv_sub hl [1, 2, 3, 0] rfl)
def m_X6_save (o_n : Int32) (o_all : Int32) (o_made : Int32) (o_game : Nat → Int32) (o_kept : Nat → Int32) (o_isKept : Nat → Int32) (p1 : Int32) : Option (Int32 × (Nat → Int32) × (Nat → Int32)) := (if (m_X6_in p1 (0 : Int32) (1 : Int32)) = 0 then some ((-11 : Int32), o_kept, o_isKept) else (if okI ((70 : Int32) * p1) 140 = true then (if okI (((70 : Int32) * p1) + (1 : Int32)) 140 = true then (if okI (((70 : Int32) * p1) + (2 : Int32)) 140 = true then (m_X6_save_c53 o_all o_made o_game p1 FU ((70 : Int32) * p1) (0 : Int32) (upd (upd (upd o_kept ((70 : Int32) * p1).toNatClampNeg o_n) (((70 : Int32) * p1) + (1 : Int32)).toNatClampNeg o_made) (((70 : Int32) * p1) + (2 : Int32)).toNatClampNeg o_all) o_isKept) else none) else none) else none))
set_option maxHeartbeats 4000000 in
set_option maxRecDepth 100000 in
theorem c_X6_save (l : Launch) (D : va_G) (C : Nat → ClassId) (sz : Nat) (a0 : Nat) (a1 : Nat) (a2 : Nat) (a3 : Nat) (a4 : Nat) (a5 : Nat) (a6 : Nat) (a7 : Nat) (a8 : Nat) (a9 : Nat) (a10 : Nat) (a11 : Nat) (a12 : Nat) (a13 : Nat) (a14 : Nat) (a15 : Nat) (o_n : Int32) (o_all : Int32) (o_made : Int32) (o_own0 : Int64) (o_own1 : Int64) (o_threatMany : Int32) (o_length : Int32) (o_holes : Int32) (o_tellings : Int32) (o_game : Nat → Int32) (o_near : Nat → Int64) (o_kept : Nat → Int32) (o_isKept : Nat → Int32) (o_threatOf : Nat → Int32) (o_threatSet : Nat → Int64) (o_text : Nat → Int32) (o_far : Nat → Int32) (o_back : Nat → Int32) (o_hole : Nat → Int32) (o_isWon : Nat → Int32) (o_won : Nat → Int32) (o_lasts : Nat → Int32) (o_power : Nat → Int32) (o_told : Nat → Int32) (p1 : Int32) (o : Int32 × (Nat → Int32) × (Nat → Int32)) (hf : m_X6_save o_n o_all o_made o_game o_kept o_isKept p1 = some o) : Met l yX6_save (wl yX6_save cX6_save 4 (some .int)) R_X6_save (PW [.ref a0, .int p1] D C sz (wX6 C a0 a1 a2 a3 a4 a5 a6 a7 a8 a9 a10 a11 a12 a13 a14 a15 o_n o_all o_made o_own0 o_own1 o_threatMany o_length o_holes o_tellings o_game o_near o_kept o_isKept o_threatOf o_threatSet o_text o_far o_back o_hole o_isWon o_won o_lasts o_power o_told) ([] : va_W)) (QWi D o.1 (wX6 C a0 a1 a2 a3 a4 a5 a6 a7 a8 a9 a10 a11 a12 a13 a14 a15 o_n o_all o_made o_own0 o_own1 o_threatMany o_length o_holes o_tellings o_game o_near o.2.1 o.2.2 o_threatOf o_threatSet o_text o_far o_back o_hole o_isWon o_won o_lasts o_power o_told) (va_A (wX6 C a0 a1 a2 a3 a4 a5 a6 a7 a8 a9 a10 a11 a12 a13 a14 a15 o_n o_all o_made o_own0 o_own1 o_threatMany o_length o_holes o_tellings o_game o_near o_kept o_isKept o_threatOf o_threatSet o_text o_far o_back o_hole o_isWon o_won o_lasts o_power o_told) sz)) 0 0 (va_A (wX6 C a0 a1 a2 a3 a4 a5 a6 a7 a8 a9 a10 a11 a12 a13 a14 a15 o_n o_all o_made o_own0 o_own1 o_threatMany o_length o_holes o_tellings o_game o_near o_kept o_isKept o_threatOf o_threatSet o_text o_far o_back o_hole o_isWon o_won o_lasts o_power o_told) sz) := by
  refine Met_ofC (by decide) ?_
  intro p e s m args below meth c hc hv
  obtain ⟨rfl, hsz, hP, hK, hD0, hO, hN0⟩ := hv
  subst hsz
  have hD := hD0.self (sz := s.heap.size)
  have hN : ∀ q ∈ ([] : va_W), ¬ va_A (wX6 C a0 a1 a2 a3 a4 a5 a6 a7 a8 a9 a10 a11 a12 a13 a14 a15 o_n o_all o_made o_own0 o_own1 o_threatMany o_length o_holes o_tellings o_game o_near o_kept o_isKept o_threatOf o_threatSet o_text o_far o_back o_hole o_isWon o_won o_lasts o_power o_told) s.heap.size q.1 := hN0
  generalize hAe : va_A (wX6 C a0 a1 a2 a3 a4 a5 a6 a7 a8 a9 a10 a11 a12 a13 a14 a15 o_n o_all o_made o_own0 o_own1 o_threatMany o_length o_holes o_tellings o_game o_near o_kept o_isKept o_threatOf o_threatSet o_text o_far o_back o_hole o_isWon o_won o_lasts o_power o_told) s.heap.size = A at hD hN ⊢
  have hA : ∀ q : Nat, s.heap.size ≤ q → A q := fun q h => by rw [← hAe]; exact Or.inr h
  have hS : va_S A s.heap s.heap [] := va_S.rf
  have hx := hc.1
  have hb := hc.2.1
  have hown := hc.2.2.2.2.1
  have hts := hc.2.2.2.2.2.1
  refine en_F rfl (fun ls hl => ?_)
  have hl : lv_has ls 4 [(0, .ref a0), (1, .int p1)] := hl
  refine lv_iload_n hx hb dX6_save_0 rfl (lv_at hl 1 rfl) ?_
  refine lv_iconst (v := (0 : Int32)) hx hb dX6_save_1 (by decide) ?_
  refine lv_iconst (v := (1 : Int32)) hx hb dX6_save_2 (by decide) ?_
  refine rcSi (As := [.int p1, .int (0 : Int32), .int (1 : Int32)]) (rest := []) hc k_X6_64 (c_X6_in l D C p1 (0 : Int32) (1 : Int32)  _ rfl) ⟨rfl, rfl, Nat.le_of_ble_eq_true rfl, Nat.le_of_ble_eq_true rfl⟩ (hP.sub [] rfl) hK hl rfl rfl (Nat.le_of_ble_eq_true rfl) ⟨Nat.zero_le _, Nat.zero_le _⟩ dX6_save_3 ?_
  refine lv_if_ne (tgt := 12) hx hb dX6_save_6 (by decide) (fun c1 => ?_) (fun c1 => ?_)
  · have hf := if_f hf c1
    refine lv_bipush (v := (70 : Int32)) hx hb dX6_save_12 (by decide) ?_
    refine lv_iload_n hx hb dX6_save_14 rfl (lv_at hl 1 rfl) ?_
    refine lv_imul hx hb dX6_save_15 ?_
    refine lv_istore_n (lv' := [(2, .int ((70 : Int32) * p1)), (0, .ref a0), (1, .int p1)]) hx hb dX6_save_16 rfl hl (by decide) rfl (fun ls hl => ?_)
    refine lv_aload_n hx hb dX6_save_17 rfl (lv_at hl 1 rfl) ?_
    refine va_get (D := D) (ci := 6) (v := .ref a3) (C := RX6) (T := TX6) (N := 24) hx hb hts inX6 hown hK hP 0 rfl rfl 7 (by decide) (hts _ q_661) (fun _ h9 => h9) rfl dX6_save_18 ?_
    refine lv_iload_n hx hb dX6_save_21 rfl (lv_at hl 0 rfl) ?_
    refine lv_aload_n hx hb dX6_save_22 rfl (lv_at hl 1 rfl) ?_
    refine va_get (D := D) (ci := 6) (v := .int o_n) (C := RX6) (T := TX6) (N := 24) hx hb hts inX6 hown hK hP 0 rfl rfl 0 (by decide) (hts _ q_654) (fun _ h9 => h9) rfl dX6_save_23 ?_
    obtain ⟨h2, hf⟩ := ok_t hf
    refine va_iast hx hb hK hP hD hS 3 0 rfl rfl (okI_in h2) dX6_save_26 (fun H locs hP hD hS => ?_)
    have hP : va_P D vwCl (wX6 C a0 a1 a2 a3 a4 a5 a6 a7 a8 a9 a10 a11 a12 a13 a14 a15 o_n o_all o_made o_own0 o_own1 o_threatMany o_length o_holes o_tellings o_game o_near (upd o_kept ((70 : Int32) * p1).toNatClampNeg o_n) o_isKept o_threatOf o_threatSet o_text o_far o_back o_hole o_isWon o_won o_lasts o_power o_told) H := hP
    have hD : va_D A (wX6 C a0 a1 a2 a3 a4 a5 a6 a7 a8 a9 a10 a11 a12 a13 a14 a15 o_n o_all o_made o_own0 o_own1 o_threatMany o_length o_holes o_tellings o_game o_near (upd o_kept ((70 : Int32) * p1).toNatClampNeg o_n) o_isKept o_threatOf o_threatSet o_text o_far o_back o_hole o_isWon o_won o_lasts o_power o_told) := hD
    refine lv_aload_n hx hb dX6_save_27 rfl (lv_at hl 1 rfl) ?_
    refine va_get (D := D) (ci := 6) (v := .ref a3) (C := RX6) (T := TX6) (N := 24) hx hb hts inX6 hown hK hP 0 rfl rfl 7 (by decide) (hts _ q_661) (fun _ h9 => h9) rfl dX6_save_28 ?_
    refine lv_iload_n hx hb dX6_save_31 rfl (lv_at hl 0 rfl) ?_
    refine lv_iconst (v := (1 : Int32)) hx hb dX6_save_32 (by decide) ?_
    refine lv_iadd hx hb dX6_save_33 ?_
    refine lv_aload_n hx hb dX6_save_34 rfl (lv_at hl 1 rfl) ?_
    refine va_get (D := D) (ci := 6) (v := .int o_made) (C := RX6) (T := TX6) (N := 24) hx hb hts inX6 hown hK hP 0 rfl rfl 3 (by decide) (hts _ q_657) (fun _ h9 => h9) rfl dX6_save_35 ?_
    obtain ⟨h3, hf⟩ := ok_t hf
    refine va_iast hx hb hK hP hD hS 3 0 rfl rfl (okI_in h3) dX6_save_38 (fun H locs hP hD hS => ?_)
    have hP : va_P D vwCl (wX6 C a0 a1 a2 a3 a4 a5 a6 a7 a8 a9 a10 a11 a12 a13 a14 a15 o_n o_all o_made o_own0 o_own1 o_threatMany o_length o_holes o_tellings o_game o_near (upd (upd o_kept ((70 : Int32) * p1).toNatClampNeg o_n) (((70 : Int32) * p1) + (1 : Int32)).toNatClampNeg o_made) o_isKept o_threatOf o_threatSet o_text o_far o_back o_hole o_isWon o_won o_lasts o_power o_told) H := hP
    have hD : va_D A (wX6 C a0 a1 a2 a3 a4 a5 a6 a7 a8 a9 a10 a11 a12 a13 a14 a15 o_n o_all o_made o_own0 o_own1 o_threatMany o_length o_holes o_tellings o_game o_near (upd (upd o_kept ((70 : Int32) * p1).toNatClampNeg o_n) (((70 : Int32) * p1) + (1 : Int32)).toNatClampNeg o_made) o_isKept o_threatOf o_threatSet o_text o_far o_back o_hole o_isWon o_won o_lasts o_power o_told) := hD
    refine lv_aload_n hx hb dX6_save_39 rfl (lv_at hl 1 rfl) ?_
    refine va_get (D := D) (ci := 6) (v := .ref a3) (C := RX6) (T := TX6) (N := 24) hx hb hts inX6 hown hK hP 0 rfl rfl 7 (by decide) (hts _ q_661) (fun _ h9 => h9) rfl dX6_save_40 ?_
    refine lv_iload_n hx hb dX6_save_43 rfl (lv_at hl 0 rfl) ?_
    refine lv_iconst (v := (2 : Int32)) hx hb dX6_save_44 (by decide) ?_
    refine lv_iadd hx hb dX6_save_45 ?_
    refine lv_aload_n hx hb dX6_save_46 rfl (lv_at hl 1 rfl) ?_
    refine va_get (D := D) (ci := 6) (v := .int o_all) (C := RX6) (T := TX6) (N := 24) hx hb hts inX6 hown hK hP 0 rfl rfl 2 (by decide) (hts _ q_656) (fun _ h9 => h9) rfl dX6_save_47 ?_
    obtain ⟨h4, hf⟩ := ok_t hf
    refine va_iast hx hb hK hP hD hS 3 0 rfl rfl (okI_in h4) dX6_save_50 (fun H locs hP hD hS => ?_)
    have hP : va_P D vwCl (wX6 C a0 a1 a2 a3 a4 a5 a6 a7 a8 a9 a10 a11 a12 a13 a14 a15 o_n o_all o_made o_own0 o_own1 o_threatMany o_length o_holes o_tellings o_game o_near (upd (upd (upd o_kept ((70 : Int32) * p1).toNatClampNeg o_n) (((70 : Int32) * p1) + (1 : Int32)).toNatClampNeg o_made) (((70 : Int32) * p1) + (2 : Int32)).toNatClampNeg o_all) o_isKept o_threatOf o_threatSet o_text o_far o_back o_hole o_isWon o_won o_lasts o_power o_told) H := hP
    have hD : va_D A (wX6 C a0 a1 a2 a3 a4 a5 a6 a7 a8 a9 a10 a11 a12 a13 a14 a15 o_n o_all o_made o_own0 o_own1 o_threatMany o_length o_holes o_tellings o_game o_near (upd (upd (upd o_kept ((70 : Int32) * p1).toNatClampNeg o_n) (((70 : Int32) * p1) + (1 : Int32)).toNatClampNeg o_made) (((70 : Int32) * p1) + (2 : Int32)).toNatClampNeg o_all) o_isKept o_threatOf o_threatSet o_text o_far o_back o_hole o_isWon o_won o_lasts o_power o_told) := hD
    refine lv_iconst (v := (0 : Int32)) hx hb dX6_save_51 (by decide) ?_
    refine lv_istore_n (lv' := [(3, .int (0 : Int32)), (2, .int ((70 : Int32) * p1)), (0, .ref a0), (1, .int p1)]) hx hb dX6_save_52 rfl hl (by decide) rfl (fun ls hl => ?_)
    exact w_X6_save_c53 hc hK hA hO hN  FU ((70 : Int32) * p1) (0 : Int32) (upd (upd (upd o_kept ((70 : Int32) * p1).toNatClampNeg o_n) (((70 : Int32) * p1) + (1 : Int32)).toNatClampNeg o_made) (((70 : Int32) * p1) + (2 : Int32)).toNatClampNeg o_all) o_isKept hf _ _ hP hD hS ls (lv_sub hl [2, 3, 1, 0] rfl)
  · have hf := if_t hf c1
    refine lv_bipush (v := (-11 : Int32)) hx hb dX6_save_9 (by decide) ?_
    have hf := Option.some.inj hf
    subst hf
    exact rWi hc rfl hP hD hS dX6_save_11
abbrev R_X6_restore : Room := { frames := 3, cells := 0, slots := 0, locals := 68 }
def m_X6_restore_c65 (o_kept : Nat → Int32)  : Nat → Int32 → Int32 → Int32 → Int32 → Int32 → Int64 → Int64 → Int32 → (Nat → Int32) → (Nat → Int64) → Option (Int32 × Int32 × Int32 × Int32 × Int64 × Int64 × Int32 × (Nat → Int32) × (Nat → Int64))
  | 0, _, _, _, _, _, _, _, _, _, _ => none
  | n + 1, v2, v3, o_n, o_all, o_made, o_own0, o_own1, o_threatMany, o_game, o_near => (if o_all ≤ v3 then ((m_X6_shapes o_n o_near).bind fun u8 => ((m_X6_goes o_n o_game o_made).bind fun u9 => some (o_made, o_n, o_all, o_made, u9.1, u9.2, (0 : Int32), o_game, u8))) else (if okI ((v2 + (3 : Int32)) + v3) 140 = true then (if okI v3 64 = true then (m_X6_restore_c65 o_kept  n v2 (v3 + (1 : Int32)) o_n o_all o_made o_own0 o_own1 o_threatMany (upd o_game v3.toNatClampNeg (o_kept ((v2 + (3 : Int32)) + v3).toNatClampNeg)) o_near) else none) else none))
set_option maxHeartbeats 4000000 in
set_option maxRecDepth 100000 in
theorem w_X6_restore_c65 {p : Program} {l : Launch} {e : Env} {s : State} {m : MethodId} {args : Array Value} {below : List Frame} {meth : Method} {c : Code} {D : va_G} {C : Nat → ClassId} {A : Nat → Prop} {a0 : Nat} {a1 : Nat} {a2 : Nat} {a3 : Nat} {a4 : Nat} {a5 : Nat} {a6 : Nat} {a7 : Nat} {a8 : Nat} {a9 : Nat} {a10 : Nat} {a11 : Nat} {a12 : Nat} {a13 : Nat} {a14 : Nat} {a15 : Nat} {o_length : Int32} {o_holes : Int32} {o_tellings : Int32} {o_kept : Nat → Int32} {o_isKept : Nat → Int32} {o_threatOf : Nat → Int32} {o_threatSet : Nat → Int64} {o_text : Nat → Int32} {o_far : Nat → Int32} {o_back : Nat → Int32} {o_hole : Nat → Int32} {o_isWon : Nat → Int32} {o_won : Nat → Int32} {o_lasts : Nat → Int32} {o_power : Nat → Int32} {o_told : Nat → Int32} {o : Int32 × Int32 × Int32 × Int32 × Int64 × Int64 × Int32 × (Nat → Int32) × (Nat → Int64)} (hc : Cx p s m args meth c yX6_restore cX6_restore 4 (some .int)) (hK : va_K D vwCl (TY C) s) (hA : ∀ q : Nat, s.heap.size ≤ q → A q) (hO : va_P D vwCl ([] : va_W) s.heap) (hN : ∀ q ∈ ([] : va_W), ¬ A q.1) : ∀ (n : Nat), ∀ (v2 : Int32) (v3 : Int32) (o_n : Int32) (o_all : Int32) (o_made : Int32) (o_own0 : Int64) (o_own1 : Int64) (o_threatMany : Int32) (o_game : Nat → Int32) (o_near : Nat → Int64), m_X6_restore_c65 o_kept  n v2 v3 o_n o_all o_made o_own0 o_own1 o_threatMany o_game o_near = some o → ∀ (H : Heap) (locs : List Loc), va_P D vwCl (wX6 C a0 a1 a2 a3 a4 a5 a6 a7 a8 a9 a10 a11 a12 a13 a14 a15 o_n o_all o_made o_own0 o_own1 o_threatMany o_length o_holes o_tellings o_game o_near o_kept o_isKept o_threatOf o_threatSet o_text o_far o_back o_hole o_isWon o_won o_lasts o_power o_told) H → va_D A (wX6 C a0 a1 a2 a3 a4 a5 a6 a7 a8 a9 a10 a11 a12 a13 a14 a15 o_n o_all o_made o_own0 o_own1 o_threatMany o_length o_holes o_tellings o_game o_near o_kept o_isKept o_threatOf o_threatSet o_text o_far o_back o_hole o_isWon o_won o_lasts o_power o_told) → va_S A s.heap H locs → ∀ (ls : Array Slot), lv_has ls 4 [(0, .ref a0), (2, .int v2), (3, .int v3)] → W p l e R_X6_restore s m args below meth c H locs 0 0 (MQ below (QWi D o.1 (wX6 C a0 a1 a2 a3 a4 a5 a6 a7 a8 a9 a10 a11 a12 a13 a14 a15 o.2.1 o.2.2.1 o.2.2.2.1 o.2.2.2.2.1 o.2.2.2.2.2.1 o.2.2.2.2.2.2.1 o_length o_holes o_tellings o.2.2.2.2.2.2.2.1 o.2.2.2.2.2.2.2.2 o_kept o_isKept o_threatOf o_threatSet o_text o_far o_back o_hole o_isWon o_won o_lasts o_power o_told) A) args s 0 0 A) (F0 m 65 ls []) := by
  have hx := hc.1
  have hb := hc.2.1
  have hown := hc.2.2.2.2.1
  have hts := hc.2.2.2.2.2.1
  intro n
  induction n with
  | zero =>
    intro v2 v3 o_n o_all o_made o_own0 o_own1 o_threatMany o_game o_near hf
    exact no_some hf
  | succ n ih =>
    intro v2 v3 o_n o_all o_made o_own0 o_own1 o_threatMany o_game o_near hf H locs hP hD hS ls hl
    refine lv_iload_n hx hb dX6_restore_65 rfl (lv_at hl 2 rfl) ?_
    refine lv_aload_n hx hb dX6_restore_66 rfl (lv_at hl 0 rfl) ?_
    refine va_get (D := D) (ci := 6) (v := .int o_all) (C := RX6) (T := TX6) (N := 24) hx hb hts inX6 hown hK hP 0 rfl rfl 2 (by decide) (hts _ q_656) (fun _ h9 => h9) rfl dX6_restore_67 ?_
    refine lv_icmp_ge (tgt := 95) hx hb dX6_restore_70 (by decide) (fun c7 => ?_) (fun c7 => ?_)
    · have hf := if_t hf c7
      refine lv_aload_n hx hb dX6_restore_95 rfl (lv_at hl 0 rfl) ?_
      obtain ⟨u8, hu8, hf⟩ := bind_some hf
      refine wcVv (A := A) (wc := wX6 C a0 a1 a2 a3 a4 a5 a6 a7 a8 a9 a10 a11 a12 a13 a14 a15 o_n o_all o_made o_own0 o_own1 o_threatMany o_length o_holes o_tellings o_game o_near o_kept o_isKept o_threatOf o_threatSet o_text o_far o_back o_hole o_isWon o_won o_lasts o_power o_told) (w1 := wX6 C a0 a1 a2 a3 a4 a5 a6 a7 a8 a9 a10 a11 a12 a13 a14 a15 o_n o_all o_made o_own0 o_own1 o_threatMany o_length o_holes o_tellings o_game u8 o_kept o_isKept o_threatOf o_threatSet o_text o_far o_back o_hole o_isWon o_won o_lasts o_power o_told) (rc := []) (As := []) (rest := []) hc k_X6_61 (c_X6_shapes l D C _ a0 a1 a2 a3 a4 a5 a6 a7 a8 a9 a10 a11 a12 a13 a14 a15 o_n o_all o_made o_own0 o_own1 o_threatMany o_length o_holes o_tellings o_game o_near o_kept o_isKept o_threatOf o_threatSet o_text o_far o_back o_hole o_isWon o_won o_lasts o_power o_told  _ hu8) ⟨rfl, rfl, Nat.le_of_ble_eq_true rfl, Nat.le_of_ble_eq_true rfl⟩ hP hD hS hA hK [0, 1, 2, 3, 4, 5, 6, 7, 8, 9, 10, 11, 12, 13, 14, 15] [] rfl rfl rfl rfl (by decide) (hP.sub [] rfl) Ap_nil (q0 := 0) rfl rfl rfl hl rfl rfl (Nat.le_of_ble_eq_true rfl) ⟨Nat.zero_le _, Nat.zero_le _⟩ dX6_restore_96 (fun H locs hP hD hS => ?_)
      have hP : va_P D vwCl (wX6 C a0 a1 a2 a3 a4 a5 a6 a7 a8 a9 a10 a11 a12 a13 a14 a15 o_n o_all o_made o_own0 o_own1 o_threatMany o_length o_holes o_tellings o_game u8 o_kept o_isKept o_threatOf o_threatSet o_text o_far o_back o_hole o_isWon o_won o_lasts o_power o_told) H := hP.sub [0, 1, 2, 3, 4, 5, 6, 7, 8, 9, 10, 11, 12, 13, 14, 15] rfl
      have hD : va_D A (wX6 C a0 a1 a2 a3 a4 a5 a6 a7 a8 a9 a10 a11 a12 a13 a14 a15 o_n o_all o_made o_own0 o_own1 o_threatMany o_length o_holes o_tellings o_game u8 o_kept o_isKept o_threatOf o_threatSet o_text o_far o_back o_hole o_isWon o_won o_lasts o_power o_told) := hD.sub [0, 1, 2, 3, 4, 5, 6, 7, 8, 9, 10, 11, 12, 13, 14, 15] rfl rfl
      refine lv_aload_n hx hb dX6_restore_99 rfl (lv_at hl 0 rfl) ?_
      refine lv_aload_n hx hb dX6_restore_100 rfl (lv_at hl 0 rfl) ?_
      refine va_get (D := D) (ci := 6) (v := .int o_made) (C := RX6) (T := TX6) (N := 24) hx hb hts inX6 hown hK hP 0 rfl rfl 3 (by decide) (hts _ q_657) (fun _ h9 => h9) rfl dX6_restore_101 ?_
      obtain ⟨u9, hu9, hf⟩ := bind_some hf
      refine wcVv (A := A) (wc := wX6 C a0 a1 a2 a3 a4 a5 a6 a7 a8 a9 a10 a11 a12 a13 a14 a15 o_n o_all o_made o_own0 o_own1 o_threatMany o_length o_holes o_tellings o_game u8 o_kept o_isKept o_threatOf o_threatSet o_text o_far o_back o_hole o_isWon o_won o_lasts o_power o_told) (w1 := wX6 C a0 a1 a2 a3 a4 a5 a6 a7 a8 a9 a10 a11 a12 a13 a14 a15 o_n o_all o_made u9.1 u9.2 o_threatMany o_length o_holes o_tellings o_game u8 o_kept o_isKept o_threatOf o_threatSet o_text o_far o_back o_hole o_isWon o_won o_lasts o_power o_told) (rc := []) (As := [.int o_made]) (rest := []) hc k_X6_115 (c_X6_goes l D C _ a0 a1 a2 a3 a4 a5 a6 a7 a8 a9 a10 a11 a12 a13 a14 a15 o_n o_all o_made o_own0 o_own1 o_threatMany o_length o_holes o_tellings o_game u8 o_kept o_isKept o_threatOf o_threatSet o_text o_far o_back o_hole o_isWon o_won o_lasts o_power o_told o_made  _ hu9) ⟨rfl, rfl, Nat.le_of_ble_eq_true rfl, Nat.le_of_ble_eq_true rfl⟩ hP hD hS hA hK [0, 1, 2, 3, 4, 5, 6, 7, 8, 9, 10, 11, 12, 13, 14, 15] [] rfl rfl rfl rfl (by decide) (hP.sub [] rfl) Ap_nil (q0 := 0) rfl rfl rfl hl rfl rfl (Nat.le_of_ble_eq_true rfl) ⟨Nat.zero_le _, Nat.zero_le _⟩ dX6_restore_104 (fun H locs hP hD hS => ?_)
      have hP : va_P D vwCl (wX6 C a0 a1 a2 a3 a4 a5 a6 a7 a8 a9 a10 a11 a12 a13 a14 a15 o_n o_all o_made u9.1 u9.2 o_threatMany o_length o_holes o_tellings o_game u8 o_kept o_isKept o_threatOf o_threatSet o_text o_far o_back o_hole o_isWon o_won o_lasts o_power o_told) H := hP.sub [0, 1, 2, 3, 4, 5, 6, 7, 8, 9, 10, 11, 12, 13, 14, 15] rfl
      have hD : va_D A (wX6 C a0 a1 a2 a3 a4 a5 a6 a7 a8 a9 a10 a11 a12 a13 a14 a15 o_n o_all o_made u9.1 u9.2 o_threatMany o_length o_holes o_tellings o_game u8 o_kept o_isKept o_threatOf o_threatSet o_text o_far o_back o_hole o_isWon o_won o_lasts o_power o_told) := hD.sub [0, 1, 2, 3, 4, 5, 6, 7, 8, 9, 10, 11, 12, 13, 14, 15] rfl rfl
      refine lv_aload_n hx hb dX6_restore_107 rfl (lv_at hl 0 rfl) ?_
      refine lv_iconst (v := (0 : Int32)) hx hb dX6_restore_108 (by decide) ?_
      refine va_put (D := D) (ci := 6) (v := .int (0 : Int32)) (ty := .int) (C := RX6) (T := TX6) (N := 24) hx hb hts inX6 tyX6 tyX6_ok nmX6 hown hK hP hD hS 0 rfl rfl 11 (by decide) (hts _ q_665) (fun _ h9 => h9) rfl (by decide +kernel) rfl rfl (Nat.le_of_ble_eq_true rfl) dX6_restore_109 (fun H locs hP hD hS => ?_)
      have hP : va_P D vwCl (wX6 C a0 a1 a2 a3 a4 a5 a6 a7 a8 a9 a10 a11 a12 a13 a14 a15 o_n o_all o_made u9.1 u9.2 (0 : Int32) o_length o_holes o_tellings o_game u8 o_kept o_isKept o_threatOf o_threatSet o_text o_far o_back o_hole o_isWon o_won o_lasts o_power o_told) H := hP
      have hD : va_D A (wX6 C a0 a1 a2 a3 a4 a5 a6 a7 a8 a9 a10 a11 a12 a13 a14 a15 o_n o_all o_made u9.1 u9.2 (0 : Int32) o_length o_holes o_tellings o_game u8 o_kept o_isKept o_threatOf o_threatSet o_text o_far o_back o_hole o_isWon o_won o_lasts o_power o_told) := hD
      refine lv_aload_n hx hb dX6_restore_112 rfl (lv_at hl 0 rfl) ?_
      refine va_get (D := D) (ci := 6) (v := .int o_made) (C := RX6) (T := TX6) (N := 24) hx hb hts inX6 hown hK hP 0 rfl rfl 3 (by decide) (hts _ q_657) (fun _ h9 => h9) rfl dX6_restore_113 ?_
      have hf := Option.some.inj hf
      subst hf
      exact rWi hc rfl hP hD hS dX6_restore_116
    · have hf := if_f hf c7
      refine lv_aload_n hx hb dX6_restore_73 rfl (lv_at hl 0 rfl) ?_
      refine va_get (D := D) (ci := 6) (v := .ref a1) (C := RX6) (T := TX6) (N := 24) hx hb hts inX6 hown hK hP 0 rfl rfl 1 (by decide) (hts _ q_655) (fun _ h9 => h9) rfl dX6_restore_74 ?_
      refine lv_iload_n hx hb dX6_restore_77 rfl (lv_at hl 2 rfl) ?_
      refine lv_aload_n hx hb dX6_restore_78 rfl (lv_at hl 0 rfl) ?_
      refine va_get (D := D) (ci := 6) (v := .ref a3) (C := RX6) (T := TX6) (N := 24) hx hb hts inX6 hown hK hP 0 rfl rfl 7 (by decide) (hts _ q_661) (fun _ h9 => h9) rfl dX6_restore_79 ?_
      refine lv_iload_n hx hb dX6_restore_82 rfl (lv_at hl 1 rfl) ?_
      refine lv_iconst (v := (3 : Int32)) hx hb dX6_restore_83 (by decide) ?_
      refine lv_iadd hx hb dX6_restore_84 ?_
      refine lv_iload_n hx hb dX6_restore_85 rfl (lv_at hl 2 rfl) ?_
      refine lv_iadd hx hb dX6_restore_86 ?_
      obtain ⟨h10, hf⟩ := ok_t hf
      refine va_iald hx hb hK hP 3 0 rfl rfl (okI_in h10) dX6_restore_87 ?_
      obtain ⟨h11, hf⟩ := ok_t hf
      refine va_iast hx hb hK hP hD hS 1 0 rfl rfl (okI_in h11) dX6_restore_88 (fun H locs hP hD hS => ?_)
      have hP : va_P D vwCl (wX6 C a0 a1 a2 a3 a4 a5 a6 a7 a8 a9 a10 a11 a12 a13 a14 a15 o_n o_all o_made o_own0 o_own1 o_threatMany o_length o_holes o_tellings (upd o_game v3.toNatClampNeg (o_kept ((v2 + (3 : Int32)) + v3).toNatClampNeg)) o_near o_kept o_isKept o_threatOf o_threatSet o_text o_far o_back o_hole o_isWon o_won o_lasts o_power o_told) H := hP
      have hD : va_D A (wX6 C a0 a1 a2 a3 a4 a5 a6 a7 a8 a9 a10 a11 a12 a13 a14 a15 o_n o_all o_made o_own0 o_own1 o_threatMany o_length o_holes o_tellings (upd o_game v3.toNatClampNeg (o_kept ((v2 + (3 : Int32)) + v3).toNatClampNeg)) o_near o_kept o_isKept o_threatOf o_threatSet o_text o_far o_back o_hole o_isWon o_won o_lasts o_power o_told) := hD
      refine lv_iinc (v := (v3 + (1 : Int32))) (lv' := [(3, .int (v3 + (1 : Int32))), (0, .ref a0), (2, .int v2)]) hx hb dX6_restore_89 hl (k := 2) rfl rfl (by decide) rfl (fun ls hl => ?_)
      refine lv_goto (tgt := 65) hx hb dX6_restore_92 (by decide) ?_
      exact ih v2 (v3 + (1 : Int32)) o_n o_all o_made o_own0 o_own1 o_threatMany (upd o_game v3.toNatClampNeg (o_kept ((v2 + (3 : Int32)) + v3).toNatClampNeg)) o_near hf _ _ hP hD hS ls (lv_sub hl [1, 2, 0] rfl)
def m_X6_restore (o_n : Int32) (o_all : Int32) (o_made : Int32) (o_own0 : Int64) (o_own1 : Int64) (o_threatMany : Int32) (o_game : Nat → Int32) (o_near : Nat → Int64) (o_kept : Nat → Int32) (o_isKept : Nat → Int32) (p1 : Int32) : Option (Int32 × Int32 × Int32 × Int32 × Int64 × Int64 × Int32 × (Nat → Int32) × (Nat → Int64)) := (if (m_X6_in p1 (0 : Int32) (1 : Int32)) = 0 then some ((-11 : Int32), o_n, o_all, o_made, o_own0, o_own1, o_threatMany, o_game, o_near) else (if okI p1 2 = true then (if (o_isKept p1.toNatClampNeg) = 0 then some ((-13 : Int32), o_n, o_all, o_made, o_own0, o_own1, o_threatMany, o_game, o_near) else (if okI ((70 : Int32) * p1) 140 = true then (if okI (((70 : Int32) * p1) + (1 : Int32)) 140 = true then (if okI (((70 : Int32) * p1) + (2 : Int32)) 140 = true then (m_X6_restore_c65 o_kept FU ((70 : Int32) * p1) (0 : Int32) (o_kept ((70 : Int32) * p1).toNatClampNeg) (o_kept (((70 : Int32) * p1) + (2 : Int32)).toNatClampNeg) (o_kept (((70 : Int32) * p1) + (1 : Int32)).toNatClampNeg) o_own0 o_own1 o_threatMany o_game o_near) else none) else none) else none)) else none))
set_option maxHeartbeats 4000000 in
set_option maxRecDepth 100000 in
theorem c_X6_restore (l : Launch) (D : va_G) (C : Nat → ClassId) (sz : Nat) (a0 : Nat) (a1 : Nat) (a2 : Nat) (a3 : Nat) (a4 : Nat) (a5 : Nat) (a6 : Nat) (a7 : Nat) (a8 : Nat) (a9 : Nat) (a10 : Nat) (a11 : Nat) (a12 : Nat) (a13 : Nat) (a14 : Nat) (a15 : Nat) (o_n : Int32) (o_all : Int32) (o_made : Int32) (o_own0 : Int64) (o_own1 : Int64) (o_threatMany : Int32) (o_length : Int32) (o_holes : Int32) (o_tellings : Int32) (o_game : Nat → Int32) (o_near : Nat → Int64) (o_kept : Nat → Int32) (o_isKept : Nat → Int32) (o_threatOf : Nat → Int32) (o_threatSet : Nat → Int64) (o_text : Nat → Int32) (o_far : Nat → Int32) (o_back : Nat → Int32) (o_hole : Nat → Int32) (o_isWon : Nat → Int32) (o_won : Nat → Int32) (o_lasts : Nat → Int32) (o_power : Nat → Int32) (o_told : Nat → Int32) (p1 : Int32) (o : Int32 × Int32 × Int32 × Int32 × Int64 × Int64 × Int32 × (Nat → Int32) × (Nat → Int64)) (hf : m_X6_restore o_n o_all o_made o_own0 o_own1 o_threatMany o_game o_near o_kept o_isKept p1 = some o) : Met l yX6_restore (wl yX6_restore cX6_restore 4 (some .int)) R_X6_restore (PW [.ref a0, .int p1] D C sz (wX6 C a0 a1 a2 a3 a4 a5 a6 a7 a8 a9 a10 a11 a12 a13 a14 a15 o_n o_all o_made o_own0 o_own1 o_threatMany o_length o_holes o_tellings o_game o_near o_kept o_isKept o_threatOf o_threatSet o_text o_far o_back o_hole o_isWon o_won o_lasts o_power o_told) ([] : va_W)) (QWi D o.1 (wX6 C a0 a1 a2 a3 a4 a5 a6 a7 a8 a9 a10 a11 a12 a13 a14 a15 o.2.1 o.2.2.1 o.2.2.2.1 o.2.2.2.2.1 o.2.2.2.2.2.1 o.2.2.2.2.2.2.1 o_length o_holes o_tellings o.2.2.2.2.2.2.2.1 o.2.2.2.2.2.2.2.2 o_kept o_isKept o_threatOf o_threatSet o_text o_far o_back o_hole o_isWon o_won o_lasts o_power o_told) (va_A (wX6 C a0 a1 a2 a3 a4 a5 a6 a7 a8 a9 a10 a11 a12 a13 a14 a15 o_n o_all o_made o_own0 o_own1 o_threatMany o_length o_holes o_tellings o_game o_near o_kept o_isKept o_threatOf o_threatSet o_text o_far o_back o_hole o_isWon o_won o_lasts o_power o_told) sz)) 0 0 (va_A (wX6 C a0 a1 a2 a3 a4 a5 a6 a7 a8 a9 a10 a11 a12 a13 a14 a15 o_n o_all o_made o_own0 o_own1 o_threatMany o_length o_holes o_tellings o_game o_near o_kept o_isKept o_threatOf o_threatSet o_text o_far o_back o_hole o_isWon o_won o_lasts o_power o_told) sz) := by
  refine Met_ofC (by decide) ?_
  intro p e s m args below meth c hc hv
  obtain ⟨rfl, hsz, hP, hK, hD0, hO, hN0⟩ := hv
  subst hsz
  have hD := hD0.self (sz := s.heap.size)
  have hN : ∀ q ∈ ([] : va_W), ¬ va_A (wX6 C a0 a1 a2 a3 a4 a5 a6 a7 a8 a9 a10 a11 a12 a13 a14 a15 o_n o_all o_made o_own0 o_own1 o_threatMany o_length o_holes o_tellings o_game o_near o_kept o_isKept o_threatOf o_threatSet o_text o_far o_back o_hole o_isWon o_won o_lasts o_power o_told) s.heap.size q.1 := hN0
  generalize hAe : va_A (wX6 C a0 a1 a2 a3 a4 a5 a6 a7 a8 a9 a10 a11 a12 a13 a14 a15 o_n o_all o_made o_own0 o_own1 o_threatMany o_length o_holes o_tellings o_game o_near o_kept o_isKept o_threatOf o_threatSet o_text o_far o_back o_hole o_isWon o_won o_lasts o_power o_told) s.heap.size = A at hD hN ⊢
  have hA : ∀ q : Nat, s.heap.size ≤ q → A q := fun q h => by rw [← hAe]; exact Or.inr h
  have hS : va_S A s.heap s.heap [] := va_S.rf
  have hx := hc.1
  have hb := hc.2.1
  have hown := hc.2.2.2.2.1
  have hts := hc.2.2.2.2.2.1
  refine en_F rfl (fun ls hl => ?_)
  have hl : lv_has ls 4 [(0, .ref a0), (1, .int p1)] := hl
  refine lv_iload_n hx hb dX6_restore_0 rfl (lv_at hl 1 rfl) ?_
  refine lv_iconst (v := (0 : Int32)) hx hb dX6_restore_1 (by decide) ?_
  refine lv_iconst (v := (1 : Int32)) hx hb dX6_restore_2 (by decide) ?_
  refine rcSi (As := [.int p1, .int (0 : Int32), .int (1 : Int32)]) (rest := []) hc k_X6_64 (c_X6_in l D C p1 (0 : Int32) (1 : Int32)  _ rfl) ⟨rfl, rfl, Nat.le_of_ble_eq_true rfl, Nat.le_of_ble_eq_true rfl⟩ (hP.sub [] rfl) hK hl rfl rfl (Nat.le_of_ble_eq_true rfl) ⟨Nat.zero_le _, Nat.zero_le _⟩ dX6_restore_3 ?_
  refine lv_if_ne (tgt := 12) hx hb dX6_restore_6 (by decide) (fun c1 => ?_) (fun c1 => ?_)
  · have hf := if_f hf c1
    refine lv_aload_n hx hb dX6_restore_12 rfl (lv_at hl 0 rfl) ?_
    refine va_get (D := D) (ci := 6) (v := .ref a4) (C := RX6) (T := TX6) (N := 24) hx hb hts inX6 hown hK hP 0 rfl rfl 8 (by decide) (hts _ q_662) (fun _ h9 => h9) rfl dX6_restore_13 ?_
    refine lv_iload_n hx hb dX6_restore_16 rfl (lv_at hl 1 rfl) ?_
    obtain ⟨h2, hf⟩ := ok_t hf
    refine va_zald hx hb hK hP 4 3 rfl rfl (okI_in h2) dX6_restore_17 ?_
    refine lv_if_ne (tgt := 24) hx hb dX6_restore_18 (by decide) (fun c3 => ?_) (fun c3 => ?_)
    · have hf := if_f hf c3
      refine lv_bipush (v := (70 : Int32)) hx hb dX6_restore_24 (by decide) ?_
      refine lv_iload_n hx hb dX6_restore_26 rfl (lv_at hl 1 rfl) ?_
      refine lv_imul hx hb dX6_restore_27 ?_
      refine lv_istore_n (lv' := [(2, .int ((70 : Int32) * p1)), (0, .ref a0), (1, .int p1)]) hx hb dX6_restore_28 rfl hl (by decide) rfl (fun ls hl => ?_)
      refine lv_aload_n hx hb dX6_restore_29 rfl (lv_at hl 1 rfl) ?_
      refine lv_aload_n hx hb dX6_restore_30 rfl (lv_at hl 1 rfl) ?_
      refine va_get (D := D) (ci := 6) (v := .ref a3) (C := RX6) (T := TX6) (N := 24) hx hb hts inX6 hown hK hP 0 rfl rfl 7 (by decide) (hts _ q_661) (fun _ h9 => h9) rfl dX6_restore_31 ?_
      refine lv_iload_n hx hb dX6_restore_34 rfl (lv_at hl 0 rfl) ?_
      obtain ⟨h4, hf⟩ := ok_t hf
      refine va_iald hx hb hK hP 3 0 rfl rfl (okI_in h4) dX6_restore_35 ?_
      refine va_put (D := D) (ci := 6) (v := .int (o_kept ((70 : Int32) * p1).toNatClampNeg)) (ty := .int) (C := RX6) (T := TX6) (N := 24) hx hb hts inX6 tyX6 tyX6_ok nmX6 hown hK hP hD hS 0 rfl rfl 0 (by decide) (hts _ q_654) (fun _ h9 => h9) rfl (by decide +kernel) rfl rfl (Nat.le_of_ble_eq_true rfl) dX6_restore_36 (fun H locs hP hD hS => ?_)
      have hP : va_P D vwCl (wX6 C a0 a1 a2 a3 a4 a5 a6 a7 a8 a9 a10 a11 a12 a13 a14 a15 (o_kept ((70 : Int32) * p1).toNatClampNeg) o_all o_made o_own0 o_own1 o_threatMany o_length o_holes o_tellings o_game o_near o_kept o_isKept o_threatOf o_threatSet o_text o_far o_back o_hole o_isWon o_won o_lasts o_power o_told) H := hP
      have hD : va_D A (wX6 C a0 a1 a2 a3 a4 a5 a6 a7 a8 a9 a10 a11 a12 a13 a14 a15 (o_kept ((70 : Int32) * p1).toNatClampNeg) o_all o_made o_own0 o_own1 o_threatMany o_length o_holes o_tellings o_game o_near o_kept o_isKept o_threatOf o_threatSet o_text o_far o_back o_hole o_isWon o_won o_lasts o_power o_told) := hD
      refine lv_aload_n hx hb dX6_restore_39 rfl (lv_at hl 1 rfl) ?_
      refine lv_aload_n hx hb dX6_restore_40 rfl (lv_at hl 1 rfl) ?_
      refine va_get (D := D) (ci := 6) (v := .ref a3) (C := RX6) (T := TX6) (N := 24) hx hb hts inX6 hown hK hP 0 rfl rfl 7 (by decide) (hts _ q_661) (fun _ h9 => h9) rfl dX6_restore_41 ?_
      refine lv_iload_n hx hb dX6_restore_44 rfl (lv_at hl 0 rfl) ?_
      refine lv_iconst (v := (1 : Int32)) hx hb dX6_restore_45 (by decide) ?_
      refine lv_iadd hx hb dX6_restore_46 ?_
      obtain ⟨h5, hf⟩ := ok_t hf
      refine va_iald hx hb hK hP 3 0 rfl rfl (okI_in h5) dX6_restore_47 ?_
      refine va_put (D := D) (ci := 6) (v := .int (o_kept (((70 : Int32) * p1) + (1 : Int32)).toNatClampNeg)) (ty := .int) (C := RX6) (T := TX6) (N := 24) hx hb hts inX6 tyX6 tyX6_ok nmX6 hown hK hP hD hS 0 rfl rfl 3 (by decide) (hts _ q_657) (fun _ h9 => h9) rfl (by decide +kernel) rfl rfl (Nat.le_of_ble_eq_true rfl) dX6_restore_48 (fun H locs hP hD hS => ?_)
      have hP : va_P D vwCl (wX6 C a0 a1 a2 a3 a4 a5 a6 a7 a8 a9 a10 a11 a12 a13 a14 a15 (o_kept ((70 : Int32) * p1).toNatClampNeg) o_all (o_kept (((70 : Int32) * p1) + (1 : Int32)).toNatClampNeg) o_own0 o_own1 o_threatMany o_length o_holes o_tellings o_game o_near o_kept o_isKept o_threatOf o_threatSet o_text o_far o_back o_hole o_isWon o_won o_lasts o_power o_told) H := hP
      have hD : va_D A (wX6 C a0 a1 a2 a3 a4 a5 a6 a7 a8 a9 a10 a11 a12 a13 a14 a15 (o_kept ((70 : Int32) * p1).toNatClampNeg) o_all (o_kept (((70 : Int32) * p1) + (1 : Int32)).toNatClampNeg) o_own0 o_own1 o_threatMany o_length o_holes o_tellings o_game o_near o_kept o_isKept o_threatOf o_threatSet o_text o_far o_back o_hole o_isWon o_won o_lasts o_power o_told) := hD
      refine lv_aload_n hx hb dX6_restore_51 rfl (lv_at hl 1 rfl) ?_
      refine lv_aload_n hx hb dX6_restore_52 rfl (lv_at hl 1 rfl) ?_
      refine va_get (D := D) (ci := 6) (v := .ref a3) (C := RX6) (T := TX6) (N := 24) hx hb hts inX6 hown hK hP 0 rfl rfl 7 (by decide) (hts _ q_661) (fun _ h9 => h9) rfl dX6_restore_53 ?_
      refine lv_iload_n hx hb dX6_restore_56 rfl (lv_at hl 0 rfl) ?_
      refine lv_iconst (v := (2 : Int32)) hx hb dX6_restore_57 (by decide) ?_
      refine lv_iadd hx hb dX6_restore_58 ?_
      obtain ⟨h6, hf⟩ := ok_t hf
      refine va_iald hx hb hK hP 3 0 rfl rfl (okI_in h6) dX6_restore_59 ?_
      refine va_put (D := D) (ci := 6) (v := .int (o_kept (((70 : Int32) * p1) + (2 : Int32)).toNatClampNeg)) (ty := .int) (C := RX6) (T := TX6) (N := 24) hx hb hts inX6 tyX6 tyX6_ok nmX6 hown hK hP hD hS 0 rfl rfl 2 (by decide) (hts _ q_656) (fun _ h9 => h9) rfl (by decide +kernel) rfl rfl (Nat.le_of_ble_eq_true rfl) dX6_restore_60 (fun H locs hP hD hS => ?_)
      have hP : va_P D vwCl (wX6 C a0 a1 a2 a3 a4 a5 a6 a7 a8 a9 a10 a11 a12 a13 a14 a15 (o_kept ((70 : Int32) * p1).toNatClampNeg) (o_kept (((70 : Int32) * p1) + (2 : Int32)).toNatClampNeg) (o_kept (((70 : Int32) * p1) + (1 : Int32)).toNatClampNeg) o_own0 o_own1 o_threatMany o_length o_holes o_tellings o_game o_near o_kept o_isKept o_threatOf o_threatSet o_text o_far o_back o_hole o_isWon o_won o_lasts o_power o_told) H := hP
      have hD : va_D A (wX6 C a0 a1 a2 a3 a4 a5 a6 a7 a8 a9 a10 a11 a12 a13 a14 a15 (o_kept ((70 : Int32) * p1).toNatClampNeg) (o_kept (((70 : Int32) * p1) + (2 : Int32)).toNatClampNeg) (o_kept (((70 : Int32) * p1) + (1 : Int32)).toNatClampNeg) o_own0 o_own1 o_threatMany o_length o_holes o_tellings o_game o_near o_kept o_isKept o_threatOf o_threatSet o_text o_far o_back o_hole o_isWon o_won o_lasts o_power o_told) := hD
      refine lv_iconst (v := (0 : Int32)) hx hb dX6_restore_63 (by decide) ?_
      refine lv_istore_n (lv' := [(3, .int (0 : Int32)), (2, .int ((70 : Int32) * p1)), (0, .ref a0), (1, .int p1)]) hx hb dX6_restore_64 rfl hl (by decide) rfl (fun ls hl => ?_)
      exact w_X6_restore_c65 hc hK hA hO hN  FU ((70 : Int32) * p1) (0 : Int32) (o_kept ((70 : Int32) * p1).toNatClampNeg) (o_kept (((70 : Int32) * p1) + (2 : Int32)).toNatClampNeg) (o_kept (((70 : Int32) * p1) + (1 : Int32)).toNatClampNeg) o_own0 o_own1 o_threatMany o_game o_near hf _ _ hP hD hS ls (lv_sub hl [2, 1, 0] rfl)
    · have hf := if_t hf c3
      refine lv_bipush (v := (-13 : Int32)) hx hb dX6_restore_21 (by decide) ?_
      have hf := Option.some.inj hf
      subst hf
      exact rWi hc rfl hP hD hS dX6_restore_23
  · have hf := if_t hf c1
    refine lv_bipush (v := (-11 : Int32)) hx hb dX6_restore_9 (by decide) ?_
    have hf := Option.some.inj hf
    subst hf
    exact rWi hc rfl hP hD hS dX6_restore_11
abbrev R_X6_more : Room := { frames := 0, cells := 0, slots := 0, locals := 0 }
def m_X6_more (p0 : Int64) (p1 : Int64) : Int64 := (((31 : Int64) * p0) + p1)
set_option maxHeartbeats 4000000 in
set_option maxRecDepth 100000 in
theorem c_X6_more (l : Launch) (D : va_G) (C : Nat → ClassId) (p0 : Int64) (p1 : Int64) (o : Int64) (hf : m_X6_more p0 p1 = o) : Met l yX6_more (wl yX6_more cX6_more 4 (some .long)) R_X6_more (PR [.long p0, .long p1] D C ([] : va_W)) (vp_Sl (fun r => r = o)) 0 0 (fun _ => False) := by
  refine Met_ofC (by decide) ?_
  intro p e s m args below meth c hc hv
  obtain ⟨rfl, hP, hK⟩ := hv
  have hx := hc.1
  have hb := hc.2.1
  have hown := hc.2.2.2.2.1
  have hts := hc.2.2.2.2.2.1
  refine en_F rfl (fun ls hl => ?_)
  have hl : lv_has ls 4 [(0, .long p0), (2, .long p1)] := hl
  refine lv_ldc2 (v := (31 : Int64)) hx hb hown (hts _ q_1081) dX6_more_0 ?_
  refine lv_lload_n hx hb dX6_more_3 rfl (lv_at hl 0 rfl) ?_
  refine lv_lmul hx hb dX6_more_4 ?_
  refine lv_lload_n hx hb dX6_more_5 rfl (lv_at hl 1 rfl) ?_
  refine lv_ladd hx hb dX6_more_6 ?_
  exact rRl hc hf dX6_more_7

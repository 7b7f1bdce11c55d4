abbrev R_X6_shortest : Room := { frames := 6, cells := 0, slots := 0, locals := 156 }
def m_X6_shortest (o_n : Int32) (o_own0 : Int64) (o_own1 : Int64) (o_near : Nat → Int64) (o_far : Nat → Int32) (o_back : Nat → Int32) (p1 : Int32) : Option (Int64 × (Nat → Int32) × (Nat → Int32)) := (if (m_X6_isPlayer p1) = 0 then some ((-11 : Int64), o_far, o_back) else ((m_X6_shortestOf o_n o_own0 o_own1 o_near o_far o_back p1).bind fun u2 => some (u2.1, u2.2.1, u2.2.2)))
set_option maxHeartbeats 4000000 in
set_option maxRecDepth 100000 in
theorem c_X6_shortest (l : Launch) (D : va_G) (C : Nat → ClassId) (sz : Nat) (a0 : Nat) (a1 : Nat) (a2 : Nat) (a3 : Nat) (a4 : Nat) (a5 : Nat) (a6 : Nat) (a7 : Nat) (a8 : Nat) (a9 : Nat) (a10 : Nat) (a11 : Nat) (a12 : Nat) (a13 : Nat) (a14 : Nat) (a15 : Nat) (o_n : Int32) (o_all : Int32) (o_made : Int32) (o_own0 : Int64) (o_own1 : Int64) (o_threatMany : Int32) (o_length : Int32) (o_holes : Int32) (o_tellings : Int32) (o_game : Nat → Int32) (o_near : Nat → Int64) (o_kept : Nat → Int32) (o_isKept : Nat → Int32) (o_threatOf : Nat → Int32) (o_threatSet : Nat → Int64) (o_text : Nat → Int32) (o_far : Nat → Int32) (o_back : Nat → Int32) (o_hole : Nat → Int32) (o_isWon : Nat → Int32) (o_won : Nat → Int32) (o_lasts : Nat → Int32) (o_power : Nat → Int32) (o_told : Nat → Int32) (p1 : Int32) (o : Int64 × (Nat → Int32) × (Nat → Int32)) (hf : m_X6_shortest o_n o_own0 o_own1 o_near o_far o_back p1 = some o) : Met l yX6_shortest (wl yX6_shortest cX6_shortest 2 (some .long)) R_X6_shortest (PW [.ref a0, .int p1] D C sz (wX6 C a0 a1 a2 a3 a4 a5 a6 a7 a8 a9 a10 a11 a12 a13 a14 a15 o_n o_all o_made o_own0 o_own1 o_threatMany o_length o_holes o_tellings o_game o_near o_kept o_isKept o_threatOf o_threatSet o_text o_far o_back o_hole o_isWon o_won o_lasts o_power o_told) ([] : va_W)) (QWl D o.1 (wX6 C a0 a1 a2 a3 a4 a5 a6 a7 a8 a9 a10 a11 a12 a13 a14 a15 o_n o_all o_made o_own0 o_own1 o_threatMany o_length o_holes o_tellings o_game o_near o_kept o_isKept o_threatOf o_threatSet o_text o.2.1 o.2.2 o_hole o_isWon o_won o_lasts o_power o_told) (va_A (wX6 C a0 a1 a2 a3 a4 a5 a6 a7 a8 a9 a10 a11 a12 a13 a14 a15 o_n o_all o_made o_own0 o_own1 o_threatMany o_length o_holes o_tellings o_game o_near o_kept o_isKept o_threatOf o_threatSet o_text o_far o_back o_hole o_isWon o_won o_lasts o_power o_told) sz)) 0 0 (va_A (wX6 C a0 a1 a2 a3 a4 a5 a6 a7 a8 a9 a10 a11 a12 a13 a14 a15 o_n o_all o_made o_own0 o_own1 o_threatMany o_length o_holes o_tellings o_game o_near o_kept o_isKept o_threatOf o_threatSet o_text o_far o_back o_hole o_isWon o_won o_lasts o_power o_told) sz) := by
  refine Met_ofC (by decide) ?_
  intro p e s m args below meth c hc hv
  obtain ⟨rfl, hsz, hP, hK, hD0, hO, hN0⟩ := hv
  subst hsz
  have hD := hD0.self (sz := s.heap.size)
  have hN : ∀ q ∈ ([] : va_W), ¬ va_A (wX6 C a0 a1 a2 a3 a4 a5 a6 a7 a8 a9 a10 a11 a12 a13 a14 a15 o_n o_all o_made o_own0 o_own1 o_threatMany o_length o_holes o_tellings o_game o_near o_kept o_isKept o_threatOf o_threatSet o_text o_far o_back o_hole o_isWon o_won o_lasts o_power o_told) s.heap.size q.1 := hN0
  generalize hAe : va_A (wX6 C a0 a1 a2 a3 a4 a5 a6 a7 a8 a9 a10 a11 a12 a13 a14 a15 o_n o_all o_made o_own0 o_own1 o_threatMany o_length o_holes o_tellings o_game o_near o_kept o_isKept o_threatOf o_threatSet o_text o_far o_back o_hole o_isWon o_won o_lasts o_power o_told) s.heap.size = A at hD hN ⊢
  have hA : ∀ q : Nat, s.heap.size ≤ q → A q := fun q h => by rw [← hAe]; exact Or.inr h
  have hS : va_S A s.heap s.heap [] := va_S.rf
  have hx := hc.1
  have hb := hc.2.1
  have hown := hc.2.2.2.2.1
  have hts := hc.2.2.2.2.2.1
  refine en_F rfl (fun ls hl => ?_)
  have hl : lv_has ls 2 [(0, .ref a0), (1, .int p1)] := hl
  refine lv_iload_n hx hb dX6_shortest_0 rfl (lv_at hl 1 rfl) ?_
  refine rcSi (As := [.int p1]) (rest := []) hc k_X6_136 (c_X6_isPlayer l D C p1  _ rfl) ⟨rfl, rfl, Nat.le_of_ble_eq_true rfl, Nat.le_of_ble_eq_true rfl⟩ (hP.sub [] rfl) hK hl rfl rfl (Nat.le_of_ble_eq_true rfl) ⟨Nat.zero_le _, Nat.zero_le _⟩ dX6_shortest_1 ?_
  refine lv_if_eq (tgt := 15) hx hb dX6_shortest_4 (by decide) (fun c1 => ?_) (fun c1 => ?_)
  · have hf := if_t hf c1
    refine lv_ldc2 (v := (-11 : Int64)) hx hb hown (hts _ q_827) dX6_shortest_15 ?_
    have hf := Option.some.inj hf
    subst hf
    exact rWl hc rfl hP hD hS dX6_shortest_18
  · have hf := if_f hf c1
    refine lv_aload_n hx hb dX6_shortest_7 rfl (lv_at hl 0 rfl) ?_
    refine lv_iload_n hx hb dX6_shortest_8 rfl (lv_at hl 1 rfl) ?_
    obtain ⟨u2, hu2, hf⟩ := bind_some hf
    refine wcVl (A := A) (wc := wX6 C a0 a1 a2 a3 a4 a5 a6 a7 a8 a9 a10 a11 a12 a13 a14 a15 o_n o_all o_made o_own0 o_own1 o_threatMany o_length o_holes o_tellings o_game o_near o_kept o_isKept o_threatOf o_threatSet o_text o_far o_back o_hole o_isWon o_won o_lasts o_power o_told) (w1 := wX6 C a0 a1 a2 a3 a4 a5 a6 a7 a8 a9 a10 a11 a12 a13 a14 a15 o_n o_all o_made o_own0 o_own1 o_threatMany o_length o_holes o_tellings o_game o_near o_kept o_isKept o_threatOf o_threatSet o_text u2.2.1 u2.2.2 o_hole o_isWon o_won o_lasts o_power o_told) (rc := []) (As := [.int p1]) (rest := []) hc k_X6_161 (c_X6_shortestOf l D C _ a0 a1 a2 a3 a4 a5 a6 a7 a8 a9 a10 a11 a12 a13 a14 a15 o_n o_all o_made o_own0 o_own1 o_threatMany o_length o_holes o_tellings o_game o_near o_kept o_isKept o_threatOf o_threatSet o_text o_far o_back o_hole o_isWon o_won o_lasts o_power o_told p1  _ hu2) ⟨rfl, rfl, Nat.le_of_ble_eq_true rfl, Nat.le_of_ble_eq_true rfl⟩ hP hD hS hA hK [0, 1, 2, 3, 4, 5, 6, 7, 8, 9, 10, 11, 12, 13, 14, 15] [] rfl rfl rfl rfl (by decide) (hP.sub [] rfl) Ap_nil (q0 := 0) rfl rfl rfl hl rfl rfl (Nat.le_of_ble_eq_true rfl) ⟨Nat.zero_le _, Nat.zero_le _⟩ dX6_shortest_9 (fun H locs hP hD hS => ?_)
    have hP : va_P D vwCl (wX6 C a0 a1 a2 a3 a4 a5 a6 a7 a8 a9 a10 a11 a12 a13 a14 a15 o_n o_all o_made o_own0 o_own1 o_threatMany o_length o_holes o_tellings o_game o_near o_kept o_isKept o_threatOf o_threatSet o_text u2.2.1 u2.2.2 o_hole o_isWon o_won o_lasts o_power o_told) H := hP.sub [0, 1, 2, 3, 4, 5, 6, 7, 8, 9, 10, 11, 12, 13, 14, 15] rfl
    have hD : va_D A (wX6 C a0 a1 a2 a3 a4 a5 a6 a7 a8 a9 a10 a11 a12 a13 a14 a15 o_n o_all o_made o_own0 o_own1 o_threatMany o_length o_holes o_tellings o_game o_near o_kept o_isKept o_threatOf o_threatSet o_text u2.2.1 u2.2.2 o_hole o_isWon o_won o_lasts o_power o_told) := hD.sub [0, 1, 2, 3, 4, 5, 6, 7, 8, 9, 10, 11, 12, 13, 14, 15] rfl rfl
    refine lv_goto (tgt := 18) hx hb dX6_shortest_12 (by decide) ?_
    have hf := Option.some.inj hf
    subst hf
    exact rWl hc rfl hP hD hS dX6_shortest_18
abbrev R_X6_cut : Room := { frames := 5, cells := 0, slots := 0, locals := 131 }
def m_X6_cut (o_n : Int32) (o_own0 : Int64) (o_own1 : Int64) (o_near : Nat → Int64) (o_far : Nat → Int32) (p1 : Int32) : Option (Int32 × (Nat → Int32)) := (if (m_X6_isPlayer p1) = 0 then some ((-11 : Int32), o_far) else ((m_X6_distanceOf o_n o_own0 o_own1 o_near o_far ((1 : Int32) - p1)).bind fun u2 => some (u2.1, u2.2)))
set_option maxHeartbeats 4000000 in
set_option maxRecDepth 100000 in
theorem c_X6_cut (l : Launch) (D : va_G) (C : Nat → ClassId) (sz : Nat) (a0 : Nat) (a1 : Nat) (a2 : Nat) (a3 : Nat) (a4 : Nat) (a5 : Nat) (a6 : Nat) (a7 : Nat) (a8 : Nat) (a9 : Nat) (a10 : Nat) (a11 : Nat) (a12 : Nat) (a13 : Nat) (a14 : Nat) (a15 : Nat) (o_n : Int32) (o_all : Int32) (o_made : Int32) (o_own0 : Int64) (o_own1 : Int64) (o_threatMany : Int32) (o_length : Int32) (o_holes : Int32) (o_tellings : Int32) (o_game : Nat → Int32) (o_near : Nat → Int64) (o_kept : Nat → Int32) (o_isKept : Nat → Int32) (o_threatOf : Nat → Int32) (o_threatSet : Nat → Int64) (o_text : Nat → Int32) (o_far : Nat → Int32) (o_back : Nat → Int32) (o_hole : Nat → Int32) (o_isWon : Nat → Int32) (o_won : Nat → Int32) (o_lasts : Nat → Int32) (o_power : Nat → Int32) (o_told : Nat → Int32) (p1 : Int32) (o : Int32 × (Nat → Int32)) (hf : m_X6_cut o_n o_own0 o_own1 o_near o_far p1 = some o) : Met l yX6_cut (wl yX6_cut cX6_cut 2 (some .int)) R_X6_cut (PW [.ref a0, .int p1] D C sz (wX6 C a0 a1 a2 a3 a4 a5 a6 a7 a8 a9 a10 a11 a12 a13 a14 a15 o_n o_all o_made o_own0 o_own1 o_threatMany o_length o_holes o_tellings o_game o_near o_kept o_isKept o_threatOf o_threatSet o_text o_far o_back o_hole o_isWon o_won o_lasts o_power o_told) ([] : va_W)) (QWi D o.1 (wX6 C a0 a1 a2 a3 a4 a5 a6 a7 a8 a9 a10 a11 a12 a13 a14 a15 o_n o_all o_made o_own0 o_own1 o_threatMany o_length o_holes o_tellings o_game o_near o_kept o_isKept o_threatOf o_threatSet o_text o.2 o_back o_hole o_isWon o_won o_lasts o_power o_told) (va_A (wX6 C a0 a1 a2 a3 a4 a5 a6 a7 a8 a9 a10 a11 a12 a13 a14 a15 o_n o_all o_made o_own0 o_own1 o_threatMany o_length o_holes o_tellings o_game o_near o_kept o_isKept o_threatOf o_threatSet o_text o_far o_back o_hole o_isWon o_won o_lasts o_power o_told) sz)) 0 0 (va_A (wX6 C a0 a1 a2 a3 a4 a5 a6 a7 a8 a9 a10 a11 a12 a13 a14 a15 o_n o_all o_made o_own0 o_own1 o_threatMany o_length o_holes o_tellings o_game o_near o_kept o_isKept o_threatOf o_threatSet o_text o_far o_back o_hole o_isWon o_won o_lasts o_power o_told) sz) := by
  refine Met_ofC (by decide) ?_
  intro p e s m args below meth c hc hv
  obtain ⟨rfl, hsz, hP, hK, hD0, hO, hN0⟩ := hv
  subst hsz
  have hD := hD0.self (sz := s.heap.size)
  have hN : ∀ q ∈ ([] : va_W), ¬ va_A (wX6 C a0 a1 a2 a3 a4 a5 a6 a7 a8 a9 a10 a11 a12 a13 a14 a15 o_n o_all o_made o_own0 o_own1 o_threatMany o_length o_holes o_tellings o_game o_near o_kept o_isKept o_threatOf o_threatSet o_text o_far o_back o_hole o_isWon o_won o_lasts o_power o_told) s.heap.size q.1 := hN0
  generalize hAe : va_A (wX6 C a0 a1 a2 a3 a4 a5 a6 a7 a8 a9 a10 a11 a12 a13 a14 a15 o_n o_all o_made o_own0 o_own1 o_threatMany o_length o_holes o_tellings o_game o_near o_kept o_isKept o_threatOf o_threatSet o_text o_far o_back o_hole o_isWon o_won o_lasts o_power o_told) s.heap.size = A at hD hN ⊢
  have hA : ∀ q : Nat, s.heap.size ≤ q → A q := fun q h => by rw [← hAe]; exact Or.inr h
  have hS : va_S A s.heap s.heap [] := va_S.rf
  have hx := hc.1
  have hb := hc.2.1
  have hown := hc.2.2.2.2.1
  have hts := hc.2.2.2.2.2.1
  refine en_F rfl (fun ls hl => ?_)
  have hl : lv_has ls 2 [(0, .ref a0), (1, .int p1)] := hl
  refine lv_iload_n hx hb dX6_cut_0 rfl (lv_at hl 1 rfl) ?_
  refine rcSi (As := [.int p1]) (rest := []) hc k_X6_136 (c_X6_isPlayer l D C p1  _ rfl) ⟨rfl, rfl, Nat.le_of_ble_eq_true rfl, Nat.le_of_ble_eq_true rfl⟩ (hP.sub [] rfl) hK hl rfl rfl (Nat.le_of_ble_eq_true rfl) ⟨Nat.zero_le _, Nat.zero_le _⟩ dX6_cut_1 ?_
  refine lv_if_eq (tgt := 17) hx hb dX6_cut_4 (by decide) (fun c1 => ?_) (fun c1 => ?_)
  · have hf := if_t hf c1
    refine lv_bipush (v := (-11 : Int32)) hx hb dX6_cut_17 (by decide) ?_
    have hf := Option.some.inj hf
    subst hf
    exact rWi hc rfl hP hD hS dX6_cut_19
  · have hf := if_f hf c1
    refine lv_aload_n hx hb dX6_cut_7 rfl (lv_at hl 0 rfl) ?_
    refine lv_iconst (v := (1 : Int32)) hx hb dX6_cut_8 (by decide) ?_
    refine lv_iload_n hx hb dX6_cut_9 rfl (lv_at hl 1 rfl) ?_
    refine lv_isub hx hb dX6_cut_10 ?_
    obtain ⟨u2, hu2, hf⟩ := bind_some hf
    refine wcVi (A := A) (wc := wX6 C a0 a1 a2 a3 a4 a5 a6 a7 a8 a9 a10 a11 a12 a13 a14 a15 o_n o_all o_made o_own0 o_own1 o_threatMany o_length o_holes o_tellings o_game o_near o_kept o_isKept o_threatOf o_threatSet o_text o_far o_back o_hole o_isWon o_won o_lasts o_power o_told) (w1 := wX6 C a0 a1 a2 a3 a4 a5 a6 a7 a8 a9 a10 a11 a12 a13 a14 a15 o_n o_all o_made o_own0 o_own1 o_threatMany o_length o_holes o_tellings o_game o_near o_kept o_isKept o_threatOf o_threatSet o_text u2.2 o_back o_hole o_isWon o_won o_lasts o_power o_told) (rc := []) (As := [.int ((1 : Int32) - p1)]) (rest := []) hc k_X6_155 (c_X6_distanceOf l D C _ a0 a1 a2 a3 a4 a5 a6 a7 a8 a9 a10 a11 a12 a13 a14 a15 o_n o_all o_made o_own0 o_own1 o_threatMany o_length o_holes o_tellings o_game o_near o_kept o_isKept o_threatOf o_threatSet o_text o_far o_back o_hole o_isWon o_won o_lasts o_power o_told ((1 : Int32) - p1)  _ hu2) ⟨rfl, rfl, Nat.le_of_ble_eq_true rfl, Nat.le_of_ble_eq_true rfl⟩ hP hD hS hA hK [0, 1, 2, 3, 4, 5, 6, 7, 8, 9, 10, 11, 12, 13, 14, 15] [] rfl rfl rfl rfl (by decide) (hP.sub [] rfl) Ap_nil (q0 := 0) rfl rfl rfl hl rfl rfl (Nat.le_of_ble_eq_true rfl) ⟨Nat.zero_le _, Nat.zero_le _⟩ dX6_cut_11 (fun H locs hP hD hS => ?_)
    have hP : va_P D vwCl (wX6 C a0 a1 a2 a3 a4 a5 a6 a7 a8 a9 a10 a11 a12 a13 a14 a15 o_n o_all o_made o_own0 o_own1 o_threatMany o_length o_holes o_tellings o_game o_near o_kept o_isKept o_threatOf o_threatSet o_text u2.2 o_back o_hole o_isWon o_won o_lasts o_power o_told) H := hP.sub [0, 1, 2, 3, 4, 5, 6, 7, 8, 9, 10, 11, 12, 13, 14, 15] rfl
    have hD : va_D A (wX6 C a0 a1 a2 a3 a4 a5 a6 a7 a8 a9 a10 a11 a12 a13 a14 a15 o_n o_all o_made o_own0 o_own1 o_threatMany o_length o_holes o_tellings o_game o_near o_kept o_isKept o_threatOf o_threatSet o_text u2.2 o_back o_hole o_isWon o_won o_lasts o_power o_told) := hD.sub [0, 1, 2, 3, 4, 5, 6, 7, 8, 9, 10, 11, 12, 13, 14, 15] rfl rfl
    refine lv_goto (tgt := 19) hx hb dX6_cut_14 (by decide) ?_
    have hf := Option.some.inj hf
    subst hf
    exact rWi hc rfl hP hD hS dX6_cut_19
abbrev R_X6_carrier : Room := { frames := 1, cells := 0, slots := 0, locals := 24 }
def m_X6_carrier (o_near : Nat → Int64) (p1 : Int32) (p2 : Int32) (p3 : Int64) : Option (Int64) := (if okI p1 49 = true then (if okI p2 49 = true then (if okI p1 49 = true then (if (m_X6_has (o_near p1.toNatClampNeg) p2) = 0 then ((m_X6_size ((o_near p1.toNatClampNeg) &&& (o_near p2.toNatClampNeg))).bind fun u5 => (if u5 = (2 : Int32) then (if (((o_near p1.toNatClampNeg) &&& (o_near p2.toNatClampNeg)) &&& p3) = ((o_near p1.toNatClampNeg) &&& (o_near p2.toNatClampNeg)) then some ((o_near p1.toNatClampNeg) &&& (o_near p2.toNatClampNeg)) else some (0 : Int64)) else some (0 : Int64))) else some (0 : Int64)) else none) else none) else none)
set_option maxHeartbeats 4000000 in
set_option maxRecDepth 100000 in
theorem c_X6_carrier (l : Launch) (D : va_G) (C : Nat → ClassId) (z0 : Nat) (z1 : Nat) (o_n : Int32) (r_o_game : Nat) (o_all : Int32) (o_made : Int32) (o_own0 : Int64) (o_own1 : Int64) (r_o_kept : Nat) (r_o_isKept : Nat) (r_o_threatOf : Nat) (r_o_threatSet : Nat) (o_threatMany : Int32) (r_o_text : Nat) (o_length : Int32) (r_o_far : Nat) (r_o_back : Nat) (r_o_hole : Nat) (o_holes : Int32) (r_o_isWon : Nat) (r_o_won : Nat) (r_o_lasts : Nat) (r_o_power : Nat) (r_o_told : Nat) (o_tellings : Int32) (o_near : Nat → Int64) (p1 : Int32) (p2 : Int32) (p3 : Int64) (o : Int64) (hf : m_X6_carrier o_near p1 p2 p3 = some o) : Met l yX6_carrier (wl yX6_carrier cX6_carrier 7 (some .long)) R_X6_carrier (PR [.ref z0, .int p1, .int p2, .long p3] D C [cX6 z0 o_n r_o_game o_all o_made o_own0 o_own1 z1 r_o_kept r_o_isKept r_o_threatOf r_o_threatSet o_threatMany r_o_text o_length r_o_far r_o_back r_o_hole o_holes r_o_isWon r_o_won r_o_lasts r_o_power r_o_told o_tellings, aJ C z1 49 o_near]) (vp_Sl (fun r => r = o)) 0 0 (fun _ => False) := by
  refine Met_ofC (by decide) ?_
  intro p e s m args below meth c hc hv
  obtain ⟨rfl, hP, hK⟩ := hv
  have hx := hc.1
  have hb := hc.2.1
  have hown := hc.2.2.2.2.1
  have hts := hc.2.2.2.2.2.1
  refine en_F rfl (fun ls hl => ?_)
  have hl : lv_has ls 7 [(0, .ref z0), (1, .int p1), (2, .int p2), (3, .long p3)] := hl
  refine lv_aload_n hx hb dX6_carrier_0 rfl (lv_at hl 0 rfl) ?_
  refine va_get (D := D) (ci := 6) (v := .ref z1) (C := RX6) (T := TX6) (N := 24) hx hb hts inX6 hown hK hP 0 rfl rfl 6 (by decide) (hts _ q_660) (fun _ h9 => h9) rfl dX6_carrier_1 ?_
  refine lv_iload_n hx hb dX6_carrier_4 rfl (lv_at hl 1 rfl) ?_
  obtain ⟨h1, hf⟩ := ok_t hf
  refine va_lald hx hb hK hP 1 1 rfl rfl (okI_in h1) dX6_carrier_5 ?_
  refine lv_aload_n hx hb dX6_carrier_6 rfl (lv_at hl 0 rfl) ?_
  refine va_get (D := D) (ci := 6) (v := .ref z1) (C := RX6) (T := TX6) (N := 24) hx hb hts inX6 hown hK hP 0 rfl rfl 6 (by decide) (hts _ q_660) (fun _ h9 => h9) rfl dX6_carrier_7 ?_
  refine lv_iload_n hx hb dX6_carrier_10 rfl (lv_at hl 2 rfl) ?_
  obtain ⟨h2, hf⟩ := ok_t hf
  refine va_lald hx hb hK hP 1 1 rfl rfl (okI_in h2) dX6_carrier_11 ?_
  refine lv_land hx hb dX6_carrier_12 ?_
  refine lv_lstore (lv' := [(5, .long ((o_near p1.toNatClampNeg) &&& (o_near p2.toNatClampNeg))), (0, .ref z0), (1, .int p1), (2, .int p2), (3, .long p3)]) hx hb dX6_carrier_13 hl (by decide) rfl (fun ls hl => ?_)
  refine lv_aload_n hx hb dX6_carrier_15 rfl (lv_at hl 1 rfl) ?_
  refine va_get (D := D) (ci := 6) (v := .ref z1) (C := RX6) (T := TX6) (N := 24) hx hb hts inX6 hown hK hP 0 rfl rfl 6 (by decide) (hts _ q_660) (fun _ h9 => h9) rfl dX6_carrier_16 ?_
  refine lv_iload_n hx hb dX6_carrier_19 rfl (lv_at hl 2 rfl) ?_
  obtain ⟨h3, hf⟩ := ok_t hf
  refine va_lald hx hb hK hP 1 1 rfl rfl (okI_in h3) dX6_carrier_20 ?_
  refine lv_iload_n hx hb dX6_carrier_21 rfl (lv_at hl 3 rfl) ?_
  refine rcSi (As := [.long (o_near p1.toNatClampNeg), .int p2]) (rest := []) hc k_X6_85 (c_X6_has l D C (o_near p1.toNatClampNeg) p2  _ rfl) ⟨rfl, rfl, Nat.le_of_ble_eq_true rfl, Nat.le_of_ble_eq_true rfl⟩ (hP.sub [] rfl) hK hl rfl rfl (Nat.le_of_ble_eq_true rfl) ⟨Nat.zero_le _, Nat.zero_le _⟩ dX6_carrier_22 ?_
  refine lv_if_ne (tgt := 47) hx hb dX6_carrier_25 (by decide) (fun c4 => ?_) (fun c4 => ?_)
  · have hf := if_f hf c4
    refine lv_lconst (v := (0 : Int64)) hx hb dX6_carrier_47 (by decide) ?_
    refine lv_goto (tgt := 53) hx hb dX6_carrier_48 (by decide) ?_
    exact rRl hc (Option.some.inj hf) dX6_carrier_53
  · have hf := if_t hf c4
    refine lv_lload hx hb dX6_carrier_28 (lv_at hl 0 rfl) ?_
    obtain ⟨u5, hu5, hf⟩ := bind_some hf
    refine rcSi (As := [.long ((o_near p1.toNatClampNeg) &&& (o_near p2.toNatClampNeg))]) (rest := []) hc k_X6_164 (c_X6_size l D C ((o_near p1.toNatClampNeg) &&& (o_near p2.toNatClampNeg))  _ hu5) ⟨rfl, rfl, Nat.le_of_ble_eq_true rfl, Nat.le_of_ble_eq_true rfl⟩ (hP.sub [] rfl) hK hl rfl rfl (Nat.le_of_ble_eq_true rfl) ⟨Nat.zero_le _, Nat.zero_le _⟩ dX6_carrier_30 ?_
    refine lv_iconst (v := (2 : Int32)) hx hb dX6_carrier_33 (by decide) ?_
    refine lv_icmp_ne (tgt := 47) hx hb dX6_carrier_34 (by decide) (fun c6 => ?_) (fun c6 => ?_)
    · have hf := if_f hf c6
      refine lv_lconst (v := (0 : Int64)) hx hb dX6_carrier_47 (by decide) ?_
      refine lv_goto (tgt := 53) hx hb dX6_carrier_48 (by decide) ?_
      exact rRl hc (Option.some.inj hf) dX6_carrier_53
    · have hf := if_t hf c6
      refine lv_lload hx hb dX6_carrier_37 (lv_at hl 0 rfl) ?_
      refine lv_lload_n hx hb dX6_carrier_39 rfl (lv_at hl 4 rfl) ?_
      refine lv_land hx hb dX6_carrier_40 ?_
      refine lv_lload hx hb dX6_carrier_41 (lv_at hl 0 rfl) ?_
      refine lc_eq (tgt := 51) hx hb dX6_carrier_43 dX6_carrier_44 (by decide) (fun c7 => ?_) (fun c7 => ?_)
      · have hf := if_t hf c7
        refine lv_lload hx hb dX6_carrier_51 (lv_at hl 0 rfl) ?_
        exact rRl hc (Option.some.inj hf) dX6_carrier_53
      · have hf := if_f hf c7
        refine lv_lconst (v := (0 : Int64)) hx hb dX6_carrier_47 (by decide) ?_
        refine lv_goto (tgt := 53) hx hb dX6_carrier_48 (by decide) ?_
        exact rRl hc (Option.some.inj hf) dX6_carrier_53
abbrev R_X6_bridges : Room := { frames := 2, cells := 0, slots := 0, locals := 50 }
def m_X6_bridges_c93  (k32 : Int32 → Int32 → Int32 → Option (Int32)) (v3 : Int32) (v4 : Int32) (t0 : Int32) (t1 : Int32) : Option (Int32) := (k32 (t1 + t0) v3 (v4 + (1 : Int32)))
set_option maxHeartbeats 4000000 in
set_option maxRecDepth 100000 in
theorem w_X6_bridges_c93 {p : Program} {l : Launch} {e : Env} {s : State} {m : MethodId} {args : Array Value} {below : List Frame} {meth : Method} {c : Code} {D : va_G} {C : Nat → ClassId} {z0 : Nat} {z1 : Nat} {o_n : Int32} {r_o_game : Nat} {o_all : Int32} {o_made : Int32} {o_own0 : Int64} {o_own1 : Int64} {r_o_kept : Nat} {r_o_isKept : Nat} {r_o_threatOf : Nat} {r_o_threatSet : Nat} {o_threatMany : Int32} {r_o_text : Nat} {o_length : Int32} {r_o_far : Nat} {r_o_back : Nat} {r_o_hole : Nat} {o_holes : Int32} {r_o_isWon : Nat} {r_o_won : Nat} {r_o_lasts : Nat} {r_o_power : Nat} {r_o_told : Nat} {o_tellings : Int32} {o_near : Nat → Int64} {p1 : Int32} {o : Int32} (hc : Cx p s m args meth c yX6_bridges cX6_bridges 5 (some .int)) (hK : va_K D vwCl (TY C) s) (hP : va_P D vwCl [cX6 z0 o_n r_o_game o_all o_made o_own0 o_own1 z1 r_o_kept r_o_isKept r_o_threatOf r_o_threatSet o_threatMany r_o_text o_length r_o_far r_o_back r_o_hole o_holes r_o_isWon r_o_won r_o_lasts r_o_power r_o_told o_tellings, aJ C z1 49 o_near] s.heap) (k32 : Int32 → Int32 → Int32 → Option (Int32)) (hk32 : ∀ (v2 : Int32) (v3 : Int32) (v4 : Int32), k32 v2 v3 v4 = some o → ∀ (ls : Array Slot), lv_has ls 5 [(0, .ref z0), (1, .int p1), (2, .int v2), (3, .int v3), (4, .int v4)] → W p l e R_X6_bridges s m args below meth c s.heap [] 0 0 (MQ below (vp_Si (fun r => r = o)) args s 0 0 (fun _ => False)) (F0 m 32 ls [])) : ∀ (v3 : Int32) (v4 : Int32) (t0 : Int32) (t1 : Int32), m_X6_bridges_c93  k32 v3 v4 t0 t1 = some o → ∀ (ls : Array Slot), lv_has ls 5 [(0, .ref z0), (1, .int p1), (3, .int v3), (4, .int v4)] → W p l e R_X6_bridges s m args below meth c s.heap [] 0 0 (MQ below (vp_Si (fun r => r = o)) args s 0 0 (fun _ => False)) (F0 m 93 ls [.int t0, .int t1]) := by
  have hx := hc.1
  have hb := hc.2.1
  have hown := hc.2.2.2.2.1
  have hts := hc.2.2.2.2.2.1
  intro v3 v4 t0 t1 hf ls hl
  refine lv_iadd hx hb dX6_bridges_93 ?_
  refine lv_istore_n (lv' := [(2, .int (t1 + t0)), (0, .ref z0), (1, .int p1), (3, .int v3), (4, .int v4)]) hx hb dX6_bridges_94 rfl hl (by decide) rfl (fun ls hl => ?_)
  refine lv_iinc (v := (v4 + (1 : Int32))) (lv' := [(4, .int (v4 + (1 : Int32))), (2, .int (t1 + t0)), (0, .ref z0), (1, .int p1), (3, .int v3)]) hx hb dX6_bridges_95 hl (k := 4) rfl rfl (by decide) rfl (fun ls hl => ?_)
  refine lv_goto (tgt := 32) hx hb dX6_bridges_98 (by decide) ?_
  exact hk32 (t1 + t0) v3 (v4 + (1 : Int32)) hf ls (lv_sub hl [2, 3, 1, 4, 0] rfl)
def m_X6_bridges_c92  (k32 : Int32 → Int32 → Int32 → Option (Int32)) (v3 : Int32) (v4 : Int32) (t0 : Int32) : Option (Int32) := (m_X6_bridges_c93 k32 v3 v4 (0 : Int32) t0)
set_option maxHeartbeats 4000000 in
set_option maxRecDepth 100000 in
theorem w_X6_bridges_c92 {p : Program} {l : Launch} {e : Env} {s : State} {m : MethodId} {args : Array Value} {below : List Frame} {meth : Method} {c : Code} {D : va_G} {C : Nat → ClassId} {z0 : Nat} {z1 : Nat} {o_n : Int32} {r_o_game : Nat} {o_all : Int32} {o_made : Int32} {o_own0 : Int64} {o_own1 : Int64} {r_o_kept : Nat} {r_o_isKept : Nat} {r_o_threatOf : Nat} {r_o_threatSet : Nat} {o_threatMany : Int32} {r_o_text : Nat} {o_length : Int32} {r_o_far : Nat} {r_o_back : Nat} {r_o_hole : Nat} {o_holes : Int32} {r_o_isWon : Nat} {r_o_won : Nat} {r_o_lasts : Nat} {r_o_power : Nat} {r_o_told : Nat} {o_tellings : Int32} {o_near : Nat → Int64} {p1 : Int32} {o : Int32} (hc : Cx p s m args meth c yX6_bridges cX6_bridges 5 (some .int)) (hK : va_K D vwCl (TY C) s) (hP : va_P D vwCl [cX6 z0 o_n r_o_game o_all o_made o_own0 o_own1 z1 r_o_kept r_o_isKept r_o_threatOf r_o_threatSet o_threatMany r_o_text o_length r_o_far r_o_back r_o_hole o_holes r_o_isWon r_o_won r_o_lasts r_o_power r_o_told o_tellings, aJ C z1 49 o_near] s.heap) (k32 : Int32 → Int32 → Int32 → Option (Int32)) (hk32 : ∀ (v2 : Int32) (v3 : Int32) (v4 : Int32), k32 v2 v3 v4 = some o → ∀ (ls : Array Slot), lv_has ls 5 [(0, .ref z0), (1, .int p1), (2, .int v2), (3, .int v3), (4, .int v4)] → W p l e R_X6_bridges s m args below meth c s.heap [] 0 0 (MQ below (vp_Si (fun r => r = o)) args s 0 0 (fun _ => False)) (F0 m 32 ls [])) : ∀ (v3 : Int32) (v4 : Int32) (t0 : Int32), m_X6_bridges_c92  k32 v3 v4 t0 = some o → ∀ (ls : Array Slot), lv_has ls 5 [(0, .ref z0), (1, .int p1), (3, .int v3), (4, .int v4)] → W p l e R_X6_bridges s m args below meth c s.heap [] 0 0 (MQ below (vp_Si (fun r => r = o)) args s 0 0 (fun _ => False)) (F0 m 92 ls [.int t0]) := by
  have hx := hc.1
  have hb := hc.2.1
  have hown := hc.2.2.2.2.1
  have hts := hc.2.2.2.2.2.1
  intro v3 v4 t0 hf ls hl
  refine lv_iconst (v := (0 : Int32)) hx hb dX6_bridges_92 (by decide) ?_
  exact w_X6_bridges_c93 hc hK hP k32 hk32 v3 v4 (0 : Int32) t0 hf ls (lv_sub hl [0, 1, 2, 3] rfl)
def m_X6_bridges_c32 (o_n : Int32) (o_own0 : Int64) (o_own1 : Int64) (o_near : Nat → Int64) (p1 : Int32) (k14 : Int32 → Int32 → Option (Int32)) : Nat → Int32 → Int32 → Int32 → Option (Int32)
  | 0, _, _, _ => none
  | n + 1, v2, v3, v4 => (if (o_n * o_n) ≤ v4 then (k14 v2 (v3 + (1 : Int32))) else (if (m_X6_has (m_X6_own o_own0 o_own1 p1) v3) = 0 then (m_X6_bridges_c92 (m_X6_bridges_c32 o_n o_own0 o_own1 o_near p1 k14 n) v3 v4 v2) else (if (m_X6_has (m_X6_own o_own0 o_own1 p1) v4) = 0 then (m_X6_bridges_c92 (m_X6_bridges_c32 o_n o_own0 o_own1 o_near p1 k14 n) v3 v4 v2) else ((m_X6_carrier o_near v3 v4 (m_X6_free o_n o_own0 o_own1)).bind fun u6 => (if u6 = (0 : Int64) then (m_X6_bridges_c92 (m_X6_bridges_c32 o_n o_own0 o_own1 o_near p1 k14 n) v3 v4 v2) else (m_X6_bridges_c93 (m_X6_bridges_c32 o_n o_own0 o_own1 o_near p1 k14 n) v3 v4 (1 : Int32) v2))))))
set_option maxHeartbeats 4000000 in
set_option maxRecDepth 100000 in
theorem w_X6_bridges_c32 {p : Program} {l : Launch} {e : Env} {s : State} {m : MethodId} {args : Array Value} {below : List Frame} {meth : Method} {c : Code} {D : va_G} {C : Nat → ClassId} {z0 : Nat} {z1 : Nat} {o_n : Int32} {r_o_game : Nat} {o_all : Int32} {o_made : Int32} {o_own0 : Int64} {o_own1 : Int64} {r_o_kept : Nat} {r_o_isKept : Nat} {r_o_threatOf : Nat} {r_o_threatSet : Nat} {o_threatMany : Int32} {r_o_text : Nat} {o_length : Int32} {r_o_far : Nat} {r_o_back : Nat} {r_o_hole : Nat} {o_holes : Int32} {r_o_isWon : Nat} {r_o_won : Nat} {r_o_lasts : Nat} {r_o_power : Nat} {r_o_told : Nat} {o_tellings : Int32} {o_near : Nat → Int64} {p1 : Int32} {o : Int32} (hc : Cx p s m args meth c yX6_bridges cX6_bridges 5 (some .int)) (hK : va_K D vwCl (TY C) s) (hP : va_P D vwCl [cX6 z0 o_n r_o_game o_all o_made o_own0 o_own1 z1 r_o_kept r_o_isKept r_o_threatOf r_o_threatSet o_threatMany r_o_text o_length r_o_far r_o_back r_o_hole o_holes r_o_isWon r_o_won r_o_lasts r_o_power r_o_told o_tellings, aJ C z1 49 o_near] s.heap) (k14 : Int32 → Int32 → Option (Int32)) (hk14 : ∀ (v2 : Int32) (v3 : Int32), k14 v2 v3 = some o → ∀ (ls : Array Slot), lv_has ls 5 [(0, .ref z0), (1, .int p1), (2, .int v2), (3, .int v3)] → W p l e R_X6_bridges s m args below meth c s.heap [] 0 0 (MQ below (vp_Si (fun r => r = o)) args s 0 0 (fun _ => False)) (F0 m 14 ls [])) : ∀ (n : Nat), ∀ (v2 : Int32) (v3 : Int32) (v4 : Int32), m_X6_bridges_c32 o_n o_own0 o_own1 o_near p1 k14 n v2 v3 v4 = some o → ∀ (ls : Array Slot), lv_has ls 5 [(0, .ref z0), (1, .int p1), (2, .int v2), (3, .int v3), (4, .int v4)] → W p l e R_X6_bridges s m args below meth c s.heap [] 0 0 (MQ below (vp_Si (fun r => r = o)) args s 0 0 (fun _ => False)) (F0 m 32 ls []) := by
  have hx := hc.1
  have hb := hc.2.1
  have hown := hc.2.2.2.2.1
  have hts := hc.2.2.2.2.2.1
  intro n
  induction n with
  | zero =>
    intro v2 v3 v4 hf
    exact no_some hf
  | succ n ih =>
    intro v2 v3 v4 hf ls hl
    refine lv_iload hx hb dX6_bridges_32 (lv_at hl 4 rfl) ?_
    refine lv_aload_n hx hb dX6_bridges_34 rfl (lv_at hl 0 rfl) ?_
    refine va_get (D := D) (ci := 6) (v := .int o_n) (C := RX6) (T := TX6) (N := 24) hx hb hts inX6 hown hK hP 0 rfl rfl 0 (by decide) (hts _ q_654) (fun _ h9 => h9) rfl dX6_bridges_35 ?_
    refine lv_aload_n hx hb dX6_bridges_38 rfl (lv_at hl 0 rfl) ?_
    refine va_get (D := D) (ci := 6) (v := .int o_n) (C := RX6) (T := TX6) (N := 24) hx hb hts inX6 hown hK hP 0 rfl rfl 0 (by decide) (hts _ q_654) (fun _ h9 => h9) rfl dX6_bridges_39 ?_
    refine lv_imul hx hb dX6_bridges_42 ?_
    refine lv_icmp_ge (tgt := 101) hx hb dX6_bridges_43 (by decide) (fun c3 => ?_) (fun c3 => ?_)
    · have hf := if_t hf c3
      refine lv_iinc (v := (v3 + (1 : Int32))) (lv' := [(3, .int (v3 + (1 : Int32))), (0, .ref z0), (1, .int p1), (2, .int v2), (4, .int v4)]) hx hb dX6_bridges_101 hl (k := 3) rfl rfl (by decide) rfl (fun ls hl => ?_)
      refine lv_goto (tgt := 14) hx hb dX6_bridges_104 (by decide) ?_
      exact hk14 v2 (v3 + (1 : Int32)) hf ls (lv_sub hl [1, 2, 3, 0] rfl)
    · have hf := if_f hf c3
      refine lv_iload_n hx hb dX6_bridges_46 rfl (lv_at hl 2 rfl) ?_
      refine lv_aload_n hx hb dX6_bridges_47 rfl (lv_at hl 0 rfl) ?_
      refine lv_iload_n hx hb dX6_bridges_48 rfl (lv_at hl 1 rfl) ?_
      refine rcVl (As := [.int p1]) (rest := [.int v2]) hc k_X6_139 (c_X6_own l D C z0 o_n r_o_game o_all o_made o_own0 o_own1 z1 r_o_kept r_o_isKept r_o_threatOf r_o_threatSet o_threatMany r_o_text o_length r_o_far r_o_back r_o_hole o_holes r_o_isWon r_o_won r_o_lasts r_o_power r_o_told o_tellings p1  _ rfl) ⟨rfl, rfl, Nat.le_of_ble_eq_true rfl, Nat.le_of_ble_eq_true rfl⟩ (hP.sub [0] rfl) hK (q0 := 0) rfl rfl rfl hl rfl rfl (Nat.le_of_ble_eq_true rfl) ⟨Nat.zero_le _, Nat.zero_le _⟩ dX6_bridges_49 ?_
      refine lv_iload_n hx hb dX6_bridges_52 rfl (lv_at hl 3 rfl) ?_
      refine rcSi (As := [.long (m_X6_own o_own0 o_own1 p1), .int v3]) (rest := [.int v2]) hc k_X6_85 (c_X6_has l D C (m_X6_own o_own0 o_own1 p1) v3  _ rfl) ⟨rfl, rfl, Nat.le_of_ble_eq_true rfl, Nat.le_of_ble_eq_true rfl⟩ (hP.sub [] rfl) hK hl rfl rfl (Nat.le_of_ble_eq_true rfl) ⟨Nat.zero_le _, Nat.zero_le _⟩ dX6_bridges_53 ?_
      refine lv_if_eq (tgt := 92) hx hb dX6_bridges_56 (by decide) (fun c4 => ?_) (fun c4 => ?_)
      · have hf := if_t hf c4
        exact w_X6_bridges_c92 hc hK hP (m_X6_bridges_c32 o_n o_own0 o_own1 o_near p1 k14 n) ih v3 v4 v2 hf ls (lv_sub hl [0, 1, 3, 4] rfl)
      · have hf := if_f hf c4
        refine lv_aload_n hx hb dX6_bridges_59 rfl (lv_at hl 0 rfl) ?_
        refine lv_iload_n hx hb dX6_bridges_60 rfl (lv_at hl 1 rfl) ?_
        refine rcVl (As := [.int p1]) (rest := [.int v2]) hc k_X6_139 (c_X6_own l D C z0 o_n r_o_game o_all o_made o_own0 o_own1 z1 r_o_kept r_o_isKept r_o_threatOf r_o_threatSet o_threatMany r_o_text o_length r_o_far r_o_back r_o_hole o_holes r_o_isWon r_o_won r_o_lasts r_o_power r_o_told o_tellings p1  _ rfl) ⟨rfl, rfl, Nat.le_of_ble_eq_true rfl, Nat.le_of_ble_eq_true rfl⟩ (hP.sub [0] rfl) hK (q0 := 0) rfl rfl rfl hl rfl rfl (Nat.le_of_ble_eq_true rfl) ⟨Nat.zero_le _, Nat.zero_le _⟩ dX6_bridges_61 ?_
        refine lv_iload hx hb dX6_bridges_64 (lv_at hl 4 rfl) ?_
        refine rcSi (As := [.long (m_X6_own o_own0 o_own1 p1), .int v4]) (rest := [.int v2]) hc k_X6_85 (c_X6_has l D C (m_X6_own o_own0 o_own1 p1) v4  _ rfl) ⟨rfl, rfl, Nat.le_of_ble_eq_true rfl, Nat.le_of_ble_eq_true rfl⟩ (hP.sub [] rfl) hK hl rfl rfl (Nat.le_of_ble_eq_true rfl) ⟨Nat.zero_le _, Nat.zero_le _⟩ dX6_bridges_66 ?_
        refine lv_if_eq (tgt := 92) hx hb dX6_bridges_69 (by decide) (fun c5 => ?_) (fun c5 => ?_)
        · have hf := if_t hf c5
          exact w_X6_bridges_c92 hc hK hP (m_X6_bridges_c32 o_n o_own0 o_own1 o_near p1 k14 n) ih v3 v4 v2 hf ls (lv_sub hl [0, 1, 3, 4] rfl)
        · have hf := if_f hf c5
          refine lv_aload_n hx hb dX6_bridges_72 rfl (lv_at hl 0 rfl) ?_
          refine lv_iload_n hx hb dX6_bridges_73 rfl (lv_at hl 3 rfl) ?_
          refine lv_iload hx hb dX6_bridges_74 (lv_at hl 4 rfl) ?_
          refine lv_aload_n hx hb dX6_bridges_76 rfl (lv_at hl 0 rfl) ?_
          refine rcVl (As := []) (rest := [.int v4, .int v3, .ref z0, .int v2]) hc k_X6_126 (c_X6_free l D C z0 o_n r_o_game o_all o_made o_own0 o_own1 z1 r_o_kept r_o_isKept r_o_threatOf r_o_threatSet o_threatMany r_o_text o_length r_o_far r_o_back r_o_hole o_holes r_o_isWon r_o_won r_o_lasts r_o_power r_o_told o_tellings  _ rfl) ⟨rfl, rfl, Nat.le_of_ble_eq_true rfl, Nat.le_of_ble_eq_true rfl⟩ (hP.sub [0] rfl) hK (q0 := 0) rfl rfl rfl hl rfl rfl (Nat.le_of_ble_eq_true rfl) ⟨Nat.zero_le _, Nat.zero_le _⟩ dX6_bridges_77 ?_
          obtain ⟨u6, hu6, hf⟩ := bind_some hf
          refine rcVl (As := [.int v3, .int v4, .long (m_X6_free o_n o_own0 o_own1)]) (rest := [.int v2]) hc k_X6_167 (c_X6_carrier l D C z0 z1 o_n r_o_game o_all o_made o_own0 o_own1 r_o_kept r_o_isKept r_o_threatOf r_o_threatSet o_threatMany r_o_text o_length r_o_far r_o_back r_o_hole o_holes r_o_isWon r_o_won r_o_lasts r_o_power r_o_told o_tellings o_near v3 v4 (m_X6_free o_n o_own0 o_own1)  _ hu6) ⟨rfl, rfl, Nat.le_of_ble_eq_true rfl, Nat.le_of_ble_eq_true rfl⟩ (hP.sub [0, 1] rfl) hK (q0 := 0) rfl rfl rfl hl rfl rfl (Nat.le_of_ble_eq_true rfl) ⟨Nat.zero_le _, Nat.zero_le _⟩ dX6_bridges_80 ?_
          refine lv_lconst (v := (0 : Int64)) hx hb dX6_bridges_83 (by decide) ?_
          refine lc_eq (tgt := 92) hx hb dX6_bridges_84 dX6_bridges_85 (by decide) (fun c7 => ?_) (fun c7 => ?_)
          · have hf := if_t hf c7
            exact w_X6_bridges_c92 hc hK hP (m_X6_bridges_c32 o_n o_own0 o_own1 o_near p1 k14 n) ih v3 v4 v2 hf ls (lv_sub hl [0, 1, 3, 4] rfl)
          · have hf := if_f hf c7
            refine lv_iconst (v := (1 : Int32)) hx hb dX6_bridges_88 (by decide) ?_
            refine lv_goto (tgt := 93) hx hb dX6_bridges_89 (by decide) ?_
            exact w_X6_bridges_c93 hc hK hP (m_X6_bridges_c32 o_n o_own0 o_own1 o_near p1 k14 n) ih v3 v4 (1 : Int32) v2 hf ls (lv_sub hl [0, 1, 3, 4] rfl)
def m_X6_bridges_c14 (o_n : Int32) (o_own0 : Int64) (o_own1 : Int64) (o_near : Nat → Int64) (p1 : Int32)  : Nat → Int32 → Int32 → Option (Int32)
  | 0, _, _ => none
  | n + 1, v2, v3 => (if (o_n * o_n) ≤ v3 then some v2 else (m_X6_bridges_c32 o_n o_own0 o_own1 o_near p1 (m_X6_bridges_c14 o_n o_own0 o_own1 o_near p1  n) FU v2 v3 (v3 + (1 : Int32))))
set_option maxHeartbeats 4000000 in
set_option maxRecDepth 100000 in
theorem w_X6_bridges_c14 {p : Program} {l : Launch} {e : Env} {s : State} {m : MethodId} {args : Array Value} {below : List Frame} {meth : Method} {c : Code} {D : va_G} {C : Nat → ClassId} {z0 : Nat} {z1 : Nat} {o_n : Int32} {r_o_game : Nat} {o_all : Int32} {o_made : Int32} {o_own0 : Int64} {o_own1 : Int64} {r_o_kept : Nat} {r_o_isKept : Nat} {r_o_threatOf : Nat} {r_o_threatSet : Nat} {o_threatMany : Int32} {r_o_text : Nat} {o_length : Int32} {r_o_far : Nat} {r_o_back : Nat} {r_o_hole : Nat} {o_holes : Int32} {r_o_isWon : Nat} {r_o_won : Nat} {r_o_lasts : Nat} {r_o_power : Nat} {r_o_told : Nat} {o_tellings : Int32} {o_near : Nat → Int64} {p1 : Int32} {o : Int32} (hc : Cx p s m args meth c yX6_bridges cX6_bridges 5 (some .int)) (hK : va_K D vwCl (TY C) s) (hP : va_P D vwCl [cX6 z0 o_n r_o_game o_all o_made o_own0 o_own1 z1 r_o_kept r_o_isKept r_o_threatOf r_o_threatSet o_threatMany r_o_text o_length r_o_far r_o_back r_o_hole o_holes r_o_isWon r_o_won r_o_lasts r_o_power r_o_told o_tellings, aJ C z1 49 o_near] s.heap) : ∀ (n : Nat), ∀ (v2 : Int32) (v3 : Int32), m_X6_bridges_c14 o_n o_own0 o_own1 o_near p1  n v2 v3 = some o → ∀ (ls : Array Slot), lv_has ls 5 [(0, .ref z0), (1, .int p1), (2, .int v2), (3, .int v3)] → W p l e R_X6_bridges s m args below meth c s.heap [] 0 0 (MQ below (vp_Si (fun r => r = o)) args s 0 0 (fun _ => False)) (F0 m 14 ls []) := by
  have hx := hc.1
  have hb := hc.2.1
  have hown := hc.2.2.2.2.1
  have hts := hc.2.2.2.2.2.1
  intro n
  induction n with
  | zero =>
    intro v2 v3 hf
    exact no_some hf
  | succ n ih =>
    intro v2 v3 hf ls hl
    refine lv_iload_n hx hb dX6_bridges_14 rfl (lv_at hl 3 rfl) ?_
    refine lv_aload_n hx hb dX6_bridges_15 rfl (lv_at hl 0 rfl) ?_
    refine va_get (D := D) (ci := 6) (v := .int o_n) (C := RX6) (T := TX6) (N := 24) hx hb hts inX6 hown hK hP 0 rfl rfl 0 (by decide) (hts _ q_654) (fun _ h9 => h9) rfl dX6_bridges_16 ?_
    refine lv_aload_n hx hb dX6_bridges_19 rfl (lv_at hl 0 rfl) ?_
    refine va_get (D := D) (ci := 6) (v := .int o_n) (C := RX6) (T := TX6) (N := 24) hx hb hts inX6 hown hK hP 0 rfl rfl 0 (by decide) (hts _ q_654) (fun _ h9 => h9) rfl dX6_bridges_20 ?_
    refine lv_imul hx hb dX6_bridges_23 ?_
    refine lv_icmp_ge (tgt := 107) hx hb dX6_bridges_24 (by decide) (fun c2 => ?_) (fun c2 => ?_)
    · have hf := if_t hf c2
      refine lv_iload_n hx hb dX6_bridges_107 rfl (lv_at hl 2 rfl) ?_
      exact rRi hc (Option.some.inj hf) dX6_bridges_108
    · have hf := if_f hf c2
      refine lv_iload_n hx hb dX6_bridges_27 rfl (lv_at hl 3 rfl) ?_
      refine lv_iconst (v := (1 : Int32)) hx hb dX6_bridges_28 (by decide) ?_
      refine lv_iadd hx hb dX6_bridges_29 ?_
      refine lv_istore (lv' := [(4, .int (v3 + (1 : Int32))), (0, .ref z0), (1, .int p1), (2, .int v2), (3, .int v3)]) hx hb dX6_bridges_30 hl (by decide) rfl (fun ls hl => ?_)
      exact w_X6_bridges_c32 hc hK hP (m_X6_bridges_c14 o_n o_own0 o_own1 o_near p1  n) ih FU v2 v3 (v3 + (1 : Int32)) hf ls (lv_sub hl [1, 2, 3, 4, 0] rfl)
def m_X6_bridges (o_n : Int32) (o_own0 : Int64) (o_own1 : Int64) (o_near : Nat → Int64) (p1 : Int32) : Option (Int32) := (if (m_X6_isPlayer p1) = 0 then some (-11 : Int32) else (m_X6_bridges_c14 o_n o_own0 o_own1 o_near p1 FU (0 : Int32) (0 : Int32)))
set_option maxHeartbeats 4000000 in
set_option maxRecDepth 100000 in
theorem c_X6_bridges (l : Launch) (D : va_G) (C : Nat → ClassId) (z0 : Nat) (z1 : Nat) (o_n : Int32) (r_o_game : Nat) (o_all : Int32) (o_made : Int32) (o_own0 : Int64) (o_own1 : Int64) (r_o_kept : Nat) (r_o_isKept : Nat) (r_o_threatOf : Nat) (r_o_threatSet : Nat) (o_threatMany : Int32) (r_o_text : Nat) (o_length : Int32) (r_o_far : Nat) (r_o_back : Nat) (r_o_hole : Nat) (o_holes : Int32) (r_o_isWon : Nat) (r_o_won : Nat) (r_o_lasts : Nat) (r_o_power : Nat) (r_o_told : Nat) (o_tellings : Int32) (o_near : Nat → Int64) (p1 : Int32) (o : Int32) (hf : m_X6_bridges o_n o_own0 o_own1 o_near p1 = some o) : Met l yX6_bridges (wl yX6_bridges cX6_bridges 5 (some .int)) R_X6_bridges (PR [.ref z0, .int p1] D C [cX6 z0 o_n r_o_game o_all o_made o_own0 o_own1 z1 r_o_kept r_o_isKept r_o_threatOf r_o_threatSet o_threatMany r_o_text o_length r_o_far r_o_back r_o_hole o_holes r_o_isWon r_o_won r_o_lasts r_o_power r_o_told o_tellings, aJ C z1 49 o_near]) (vp_Si (fun r => r = o)) 0 0 (fun _ => False) := by
  refine Met_ofC (by decide) ?_
  intro p e s m args below meth c hc hv
  obtain ⟨rfl, hP, hK⟩ := hv
  have hx := hc.1
  have hb := hc.2.1
  have hown := hc.2.2.2.2.1
  have hts := hc.2.2.2.2.2.1
  refine en_F rfl (fun ls hl => ?_)
  have hl : lv_has ls 5 [(0, .ref z0), (1, .int p1)] := hl
  refine lv_iload_n hx hb dX6_bridges_0 rfl (lv_at hl 1 rfl) ?_
  refine rcSi (As := [.int p1]) (rest := []) hc k_X6_136 (c_X6_isPlayer l D C p1  _ rfl) ⟨rfl, rfl, Nat.le_of_ble_eq_true rfl, Nat.le_of_ble_eq_true rfl⟩ (hP.sub [] rfl) hK hl rfl rfl (Nat.le_of_ble_eq_true rfl) ⟨Nat.zero_le _, Nat.zero_le _⟩ dX6_bridges_1 ?_
  refine lv_if_ne (tgt := 10) hx hb dX6_bridges_4 (by decide) (fun c1 => ?_) (fun c1 => ?_)
  · have hf := if_f hf c1
    refine lv_iconst (v := (0 : Int32)) hx hb dX6_bridges_10 (by decide) ?_
    refine lv_istore_n (lv' := [(2, .int (0 : Int32)), (0, .ref z0), (1, .int p1)]) hx hb dX6_bridges_11 rfl hl (by decide) rfl (fun ls hl => ?_)
    refine lv_iconst (v := (0 : Int32)) hx hb dX6_bridges_12 (by decide) ?_
    refine lv_istore_n (lv' := [(3, .int (0 : Int32)), (2, .int (0 : Int32)), (0, .ref z0), (1, .int p1)]) hx hb dX6_bridges_13 rfl hl (by decide) rfl (fun ls hl => ?_)
    exact w_X6_bridges_c14 hc hK hP  FU (0 : Int32) (0 : Int32) hf ls (lv_sub hl [2, 3, 1, 0] rfl)
  · have hf := if_t hf c1
    refine lv_bipush (v := (-11 : Int32)) hx hb dX6_bridges_7 (by decide) ?_
    exact rRi hc (Option.some.inj hf) dX6_bridges_9
abbrev R_X6_bridge : Room := { frames := 3, cells := 0, slots := 0, locals := 74 }
def m_X6_bridge_c198  (k63 : Int32 → Int32 → Int32 → Option (Int32)) (v5 : Int32) (v6 : Int32) (t0 : Int32) (t1 : Int32) : Option (Int32) := (k63 (t1 - t0) v5 (v6 + (1 : Int32)))
set_option maxHeartbeats 4000000 in
set_option maxRecDepth 100000 in
theorem w_X6_bridge_c198 {p : Program} {l : Launch} {e : Env} {s : State} {m : MethodId} {args : Array Value} {below : List Frame} {meth : Method} {c : Code} {D : va_G} {C : Nat → ClassId} {z0 : Nat} {z1 : Nat} {o_n : Int32} {r_o_game : Nat} {o_all : Int32} {o_made : Int32} {o_own0 : Int64} {o_own1 : Int64} {r_o_kept : Nat} {r_o_isKept : Nat} {r_o_threatOf : Nat} {r_o_threatSet : Nat} {o_threatMany : Int32} {r_o_text : Nat} {o_length : Int32} {r_o_far : Nat} {r_o_back : Nat} {r_o_hole : Nat} {o_holes : Int32} {r_o_isWon : Nat} {r_o_won : Nat} {r_o_lasts : Nat} {r_o_power : Nat} {r_o_told : Nat} {o_tellings : Int32} {o_near : Nat → Int64} {p1 : Int32} {p3 : Int32} {o : Int32} (hc : Cx p s m args meth c yX6_bridge cX6_bridge 10 (some .int)) (hK : va_K D vwCl (TY C) s) (hP : va_P D vwCl [cX6 z0 o_n r_o_game o_all o_made o_own0 o_own1 z1 r_o_kept r_o_isKept r_o_threatOf r_o_threatSet o_threatMany r_o_text o_length r_o_far r_o_back r_o_hole o_holes r_o_isWon r_o_won r_o_lasts r_o_power r_o_told o_tellings, aJ C z1 49 o_near] s.heap) (k63 : Int32 → Int32 → Int32 → Option (Int32)) (hk63 : ∀ (v4 : Int32) (v5 : Int32) (v6 : Int32), k63 v4 v5 v6 = some o → ∀ (ls : Array Slot), lv_has ls 10 [(0, .ref z0), (1, .int p1), (3, .int p3), (4, .int v4), (5, .int v5), (6, .int v6)] → W p l e R_X6_bridge s m args below meth c s.heap [] 0 0 (MQ below (vp_Si (fun r => r = o)) args s 0 0 (fun _ => False)) (F0 m 63 ls [])) : ∀ (v5 : Int32) (v6 : Int32) (t0 : Int32) (t1 : Int32), m_X6_bridge_c198  k63 v5 v6 t0 t1 = some o → ∀ (ls : Array Slot), lv_has ls 10 [(0, .ref z0), (1, .int p1), (3, .int p3), (5, .int v5), (6, .int v6)] → W p l e R_X6_bridge s m args below meth c s.heap [] 0 0 (MQ below (vp_Si (fun r => r = o)) args s 0 0 (fun _ => False)) (F0 m 198 ls [.int t0, .int t1]) := by
  have hx := hc.1
  have hb := hc.2.1
  have hown := hc.2.2.2.2.1
  have hts := hc.2.2.2.2.2.1
  intro v5 v6 t0 t1 hf ls hl
  refine lv_isub hx hb dX6_bridge_198 ?_
  refine lv_istore (lv' := [(4, .int (t1 - t0)), (0, .ref z0), (1, .int p1), (3, .int p3), (5, .int v5), (6, .int v6)]) hx hb dX6_bridge_199 hl (by decide) rfl (fun ls hl => ?_)
  refine lv_iinc (v := (v6 + (1 : Int32))) (lv' := [(6, .int (v6 + (1 : Int32))), (4, .int (t1 - t0)), (0, .ref z0), (1, .int p1), (3, .int p3), (5, .int v5)]) hx hb dX6_bridge_201 hl (k := 5) rfl rfl (by decide) rfl (fun ls hl => ?_)
  refine lv_goto (tgt := 63) hx hb dX6_bridge_204 (by decide) ?_
  exact hk63 (t1 - t0) v5 (v6 + (1 : Int32)) hf ls (lv_sub hl [2, 3, 4, 1, 5, 0] rfl)
def m_X6_bridge_c184  (k63 : Int32 → Int32 → Int32 → Option (Int32)) (v4 : Int32) (v5 : Int32) (v6 : Int32) (v7 : Int64) : Option (Int32) := (if v7 = (0 : Int64) then (m_X6_bridge_c198 k63 v5 v6 (0 : Int32) v4) else (m_X6_bridge_c198 k63 v5 v6 (1 : Int32) v4))
set_option maxHeartbeats 4000000 in
set_option maxRecDepth 100000 in
theorem w_X6_bridge_c184 {p : Program} {l : Launch} {e : Env} {s : State} {m : MethodId} {args : Array Value} {below : List Frame} {meth : Method} {c : Code} {D : va_G} {C : Nat → ClassId} {z0 : Nat} {z1 : Nat} {o_n : Int32} {r_o_game : Nat} {o_all : Int32} {o_made : Int32} {o_own0 : Int64} {o_own1 : Int64} {r_o_kept : Nat} {r_o_isKept : Nat} {r_o_threatOf : Nat} {r_o_threatSet : Nat} {o_threatMany : Int32} {r_o_text : Nat} {o_length : Int32} {r_o_far : Nat} {r_o_back : Nat} {r_o_hole : Nat} {o_holes : Int32} {r_o_isWon : Nat} {r_o_won : Nat} {r_o_lasts : Nat} {r_o_power : Nat} {r_o_told : Nat} {o_tellings : Int32} {o_near : Nat → Int64} {p1 : Int32} {p3 : Int32} {o : Int32} (hc : Cx p s m args meth c yX6_bridge cX6_bridge 10 (some .int)) (hK : va_K D vwCl (TY C) s) (hP : va_P D vwCl [cX6 z0 o_n r_o_game o_all o_made o_own0 o_own1 z1 r_o_kept r_o_isKept r_o_threatOf r_o_threatSet o_threatMany r_o_text o_length r_o_far r_o_back r_o_hole o_holes r_o_isWon r_o_won r_o_lasts r_o_power r_o_told o_tellings, aJ C z1 49 o_near] s.heap) (k63 : Int32 → Int32 → Int32 → Option (Int32)) (hk63 : ∀ (v4 : Int32) (v5 : Int32) (v6 : Int32), k63 v4 v5 v6 = some o → ∀ (ls : Array Slot), lv_has ls 10 [(0, .ref z0), (1, .int p1), (3, .int p3), (4, .int v4), (5, .int v5), (6, .int v6)] → W p l e R_X6_bridge s m args below meth c s.heap [] 0 0 (MQ below (vp_Si (fun r => r = o)) args s 0 0 (fun _ => False)) (F0 m 63 ls [])) : ∀ (v4 : Int32) (v5 : Int32) (v6 : Int32) (v7 : Int64), m_X6_bridge_c184  k63 v4 v5 v6 v7 = some o → ∀ (ls : Array Slot), lv_has ls 10 [(0, .ref z0), (1, .int p1), (3, .int p3), (4, .int v4), (5, .int v5), (6, .int v6), (7, .long v7)] → W p l e R_X6_bridge s m args below meth c s.heap [] 0 0 (MQ below (vp_Si (fun r => r = o)) args s 0 0 (fun _ => False)) (F0 m 184 ls []) := by
  have hx := hc.1
  have hb := hc.2.1
  have hown := hc.2.2.2.2.1
  have hts := hc.2.2.2.2.2.1
  intro v4 v5 v6 v7 hf ls hl
  refine lv_iload hx hb dX6_bridge_184 (lv_at hl 3 rfl) ?_
  refine lv_lload hx hb dX6_bridge_186 (lv_at hl 6 rfl) ?_
  refine lv_lconst (v := (0 : Int64)) hx hb dX6_bridge_188 (by decide) ?_
  refine lc_eq (tgt := 197) hx hb dX6_bridge_189 dX6_bridge_190 (by decide) (fun c9 => ?_) (fun c9 => ?_)
  · have hf := if_t hf c9
    refine lv_iconst (v := (0 : Int32)) hx hb dX6_bridge_197 (by decide) ?_
    exact w_X6_bridge_c198 hc hK hP k63 hk63 v5 v6 (0 : Int32) v4 hf ls (lv_sub hl [0, 1, 2, 4, 5] rfl)
  · have hf := if_f hf c9
    refine lv_iconst (v := (1 : Int32)) hx hb dX6_bridge_193 (by decide) ?_
    refine lv_goto (tgt := 198) hx hb dX6_bridge_194 (by decide) ?_
    exact w_X6_bridge_c198 hc hK hP k63 hk63 v5 v6 (1 : Int32) v4 hf ls (lv_sub hl [0, 1, 2, 4, 5] rfl)
def m_X6_bridge_c119 (p3 : Int32) (k63 : Int32 → Int32 → Int32 → Option (Int32)) (v4 : Int32) (v5 : Int32) (v6 : Int32) (t0 : Int64) : Option (Int32) := (if t0 = (0 : Int64) then (m_X6_bridge_c184 k63 v4 v5 v6 t0) else (if v4 = 0 then ((m_X6_lowest t0).bind fun u11 => (if p3 = 0 then some v5 else (if p3 = (1 : Int32) then some v6 else (if p3 = (2 : Int32) then some u11 else ((m_X6_lowest (t0 &&& ((jshl (1 : Int64) u11) ^^^ (-1 : Int64)))).bind fun u15 => some u15))))) else (m_X6_bridge_c184 k63 v4 v5 v6 t0)))
set_option maxHeartbeats 4000000 in
set_option maxRecDepth 100000 in
theorem w_X6_bridge_c119 {p : Program} {l : Launch} {e : Env} {s : State} {m : MethodId} {args : Array Value} {below : List Frame} {meth : Method} {c : Code} {D : va_G} {C : Nat → ClassId} {z0 : Nat} {z1 : Nat} {o_n : Int32} {r_o_game : Nat} {o_all : Int32} {o_made : Int32} {o_own0 : Int64} {o_own1 : Int64} {r_o_kept : Nat} {r_o_isKept : Nat} {r_o_threatOf : Nat} {r_o_threatSet : Nat} {o_threatMany : Int32} {r_o_text : Nat} {o_length : Int32} {r_o_far : Nat} {r_o_back : Nat} {r_o_hole : Nat} {o_holes : Int32} {r_o_isWon : Nat} {r_o_won : Nat} {r_o_lasts : Nat} {r_o_power : Nat} {r_o_told : Nat} {o_tellings : Int32} {o_near : Nat → Int64} {p1 : Int32} {p3 : Int32} {o : Int32} (hc : Cx p s m args meth c yX6_bridge cX6_bridge 10 (some .int)) (hK : va_K D vwCl (TY C) s) (hP : va_P D vwCl [cX6 z0 o_n r_o_game o_all o_made o_own0 o_own1 z1 r_o_kept r_o_isKept r_o_threatOf r_o_threatSet o_threatMany r_o_text o_length r_o_far r_o_back r_o_hole o_holes r_o_isWon r_o_won r_o_lasts r_o_power r_o_told o_tellings, aJ C z1 49 o_near] s.heap) (k63 : Int32 → Int32 → Int32 → Option (Int32)) (hk63 : ∀ (v4 : Int32) (v5 : Int32) (v6 : Int32), k63 v4 v5 v6 = some o → ∀ (ls : Array Slot), lv_has ls 10 [(0, .ref z0), (1, .int p1), (3, .int p3), (4, .int v4), (5, .int v5), (6, .int v6)] → W p l e R_X6_bridge s m args below meth c s.heap [] 0 0 (MQ below (vp_Si (fun r => r = o)) args s 0 0 (fun _ => False)) (F0 m 63 ls [])) : ∀ (v4 : Int32) (v5 : Int32) (v6 : Int32) (t0 : Int64), m_X6_bridge_c119 p3 k63 v4 v5 v6 t0 = some o → ∀ (ls : Array Slot), lv_has ls 10 [(0, .ref z0), (1, .int p1), (3, .int p3), (4, .int v4), (5, .int v5), (6, .int v6)] → W p l e R_X6_bridge s m args below meth c s.heap [] 0 0 (MQ below (vp_Si (fun r => r = o)) args s 0 0 (fun _ => False)) (F0 m 119 ls [.long t0]) := by
  have hx := hc.1
  have hb := hc.2.1
  have hown := hc.2.2.2.2.1
  have hts := hc.2.2.2.2.2.1
  intro v4 v5 v6 t0 hf ls hl
  refine lv_lstore (lv' := [(7, .long t0), (0, .ref z0), (1, .int p1), (3, .int p3), (4, .int v4), (5, .int v5), (6, .int v6)]) hx hb dX6_bridge_119 hl (by decide) rfl (fun ls hl => ?_)
  refine lv_lload hx hb dX6_bridge_121 (lv_at hl 0 rfl) ?_
  refine lv_lconst (v := (0 : Int64)) hx hb dX6_bridge_123 (by decide) ?_
  refine lc_eq (tgt := 184) hx hb dX6_bridge_124 dX6_bridge_125 (by decide) (fun c8 => ?_) (fun c8 => ?_)
  · have hf := if_t hf c8
    exact w_X6_bridge_c184 hc hK hP k63 hk63 v4 v5 v6 t0 hf ls (lv_sub hl [1, 2, 3, 4, 5, 6, 0] rfl)
  · have hf := if_f hf c8
    refine lv_iload hx hb dX6_bridge_128 (lv_at hl 4 rfl) ?_
    refine lv_if_ne (tgt := 184) hx hb dX6_bridge_130 (by decide) (fun c10 => ?_) (fun c10 => ?_)
    · have hf := if_f hf c10
      exact w_X6_bridge_c184 hc hK hP k63 hk63 v4 v5 v6 t0 hf ls (lv_sub hl [1, 2, 3, 4, 5, 6, 0] rfl)
    · have hf := if_t hf c10
      refine lv_lload hx hb dX6_bridge_133 (lv_at hl 0 rfl) ?_
      obtain ⟨u11, hu11, hf⟩ := bind_some hf
      refine rcSi (As := [.long t0]) (rest := []) hc k_X6_144 (c_X6_lowest l D C t0  _ hu11) ⟨rfl, rfl, Nat.le_of_ble_eq_true rfl, Nat.le_of_ble_eq_true rfl⟩ (hP.sub [] rfl) hK hl rfl rfl (Nat.le_of_ble_eq_true rfl) ⟨Nat.zero_le _, Nat.zero_le _⟩ dX6_bridge_135 ?_
      refine lv_istore (lv' := [(9, .int u11), (7, .long t0), (0, .ref z0), (1, .int p1), (3, .int p3), (4, .int v4), (5, .int v5), (6, .int v6)]) hx hb dX6_bridge_138 hl (by decide) rfl (fun ls hl => ?_)
      refine lv_iload_n hx hb dX6_bridge_140 rfl (lv_at hl 4 rfl) ?_
      refine lv_if_ne (tgt := 149) hx hb dX6_bridge_141 (by decide) (fun c12 => ?_) (fun c12 => ?_)
      · have hf := if_f hf c12
        refine lv_iload_n hx hb dX6_bridge_149 rfl (lv_at hl 4 rfl) ?_
        refine lv_iconst (v := (1 : Int32)) hx hb dX6_bridge_150 (by decide) ?_
        refine lv_icmp_ne (tgt := 159) hx hb dX6_bridge_151 (by decide) (fun c13 => ?_) (fun c13 => ?_)
        · have hf := if_f hf c13
          refine lv_iload_n hx hb dX6_bridge_159 rfl (lv_at hl 4 rfl) ?_
          refine lv_iconst (v := (2 : Int32)) hx hb dX6_bridge_160 (by decide) ?_
          refine lv_icmp_ne (tgt := 169) hx hb dX6_bridge_161 (by decide) (fun c14 => ?_) (fun c14 => ?_)
          · have hf := if_f hf c14
            refine lv_lload hx hb dX6_bridge_169 (lv_at hl 1 rfl) ?_
            refine lv_lconst (v := (1 : Int64)) hx hb dX6_bridge_171 (by decide) ?_
            refine lv_iload hx hb dX6_bridge_172 (lv_at hl 0 rfl) ?_
            refine lv_lshl (v := (jshl (1 : Int64) u11)) hx hb dX6_bridge_174 rfl ?_
            refine lv_ldc2 (v := (-1 : Int64)) hx hb hown (hts _ q_760) dX6_bridge_175 ?_
            refine lv_lxor hx hb dX6_bridge_178 ?_
            refine lv_land hx hb dX6_bridge_179 ?_
            obtain ⟨u15, hu15, hf⟩ := bind_some hf
            refine rcSi (As := [.long (t0 &&& ((jshl (1 : Int64) u11) ^^^ (-1 : Int64)))]) (rest := []) hc k_X6_144 (c_X6_lowest l D C (t0 &&& ((jshl (1 : Int64) u11) ^^^ (-1 : Int64)))  _ hu15) ⟨rfl, rfl, Nat.le_of_ble_eq_true rfl, Nat.le_of_ble_eq_true rfl⟩ (hP.sub [] rfl) hK hl rfl rfl (Nat.le_of_ble_eq_true rfl) ⟨Nat.zero_le _, Nat.zero_le _⟩ dX6_bridge_180 ?_
            exact rRi hc (Option.some.inj hf) dX6_bridge_183
          · have hf := if_t hf c14
            refine lv_iload hx hb dX6_bridge_164 (lv_at hl 0 rfl) ?_
            refine lv_goto (tgt := 183) hx hb dX6_bridge_166 (by decide) ?_
            exact rRi hc (Option.some.inj hf) dX6_bridge_183
        · have hf := if_t hf c13
          refine lv_iload hx hb dX6_bridge_154 (lv_at hl 7 rfl) ?_
          refine lv_goto (tgt := 183) hx hb dX6_bridge_156 (by decide) ?_
          exact rRi hc (Option.some.inj hf) dX6_bridge_183
      · have hf := if_t hf c12
        refine lv_iload hx hb dX6_bridge_144 (lv_at hl 6 rfl) ?_
        refine lv_goto (tgt := 183) hx hb dX6_bridge_146 (by decide) ?_
        exact rRi hc (Option.some.inj hf) dX6_bridge_183
def m_X6_bridge_c118 (p3 : Int32) (k63 : Int32 → Int32 → Int32 → Option (Int32)) (v4 : Int32) (v5 : Int32) (v6 : Int32) : Option (Int32) := (m_X6_bridge_c119 p3 k63 v4 v5 v6 (0 : Int64))
set_option maxHeartbeats 4000000 in
set_option maxRecDepth 100000 in
theorem w_X6_bridge_c118 {p : Program} {l : Launch} {e : Env} {s : State} {m : MethodId} {args : Array Value} {below : List Frame} {meth : Method} {c : Code} {D : va_G} {C : Nat → ClassId} {z0 : Nat} {z1 : Nat} {o_n : Int32} {r_o_game : Nat} {o_all : Int32} {o_made : Int32} {o_own0 : Int64} {o_own1 : Int64} {r_o_kept : Nat} {r_o_isKept : Nat} {r_o_threatOf : Nat} {r_o_threatSet : Nat} {o_threatMany : Int32} {r_o_text : Nat} {o_length : Int32} {r_o_far : Nat} {r_o_back : Nat} {r_o_hole : Nat} {o_holes : Int32} {r_o_isWon : Nat} {r_o_won : Nat} {r_o_lasts : Nat} {r_o_power : Nat} {r_o_told : Nat} {o_tellings : Int32} {o_near : Nat → Int64} {p1 : Int32} {p3 : Int32} {o : Int32} (hc : Cx p s m args meth c yX6_bridge cX6_bridge 10 (some .int)) (hK : va_K D vwCl (TY C) s) (hP : va_P D vwCl [cX6 z0 o_n r_o_game o_all o_made o_own0 o_own1 z1 r_o_kept r_o_isKept r_o_threatOf r_o_threatSet o_threatMany r_o_text o_length r_o_far r_o_back r_o_hole o_holes r_o_isWon r_o_won r_o_lasts r_o_power r_o_told o_tellings, aJ C z1 49 o_near] s.heap) (k63 : Int32 → Int32 → Int32 → Option (Int32)) (hk63 : ∀ (v4 : Int32) (v5 : Int32) (v6 : Int32), k63 v4 v5 v6 = some o → ∀ (ls : Array Slot), lv_has ls 10 [(0, .ref z0), (1, .int p1), (3, .int p3), (4, .int v4), (5, .int v5), (6, .int v6)] → W p l e R_X6_bridge s m args below meth c s.heap [] 0 0 (MQ below (vp_Si (fun r => r = o)) args s 0 0 (fun _ => False)) (F0 m 63 ls [])) : ∀ (v4 : Int32) (v5 : Int32) (v6 : Int32), m_X6_bridge_c118 p3 k63 v4 v5 v6 = some o → ∀ (ls : Array Slot), lv_has ls 10 [(0, .ref z0), (1, .int p1), (3, .int p3), (4, .int v4), (5, .int v5), (6, .int v6)] → W p l e R_X6_bridge s m args below meth c s.heap [] 0 0 (MQ below (vp_Si (fun r => r = o)) args s 0 0 (fun _ => False)) (F0 m 118 ls []) := by
  have hx := hc.1
  have hb := hc.2.1
  have hown := hc.2.2.2.2.1
  have hts := hc.2.2.2.2.2.1
  intro v4 v5 v6 hf ls hl
  refine lv_lconst (v := (0 : Int64)) hx hb dX6_bridge_118 (by decide) ?_
  exact w_X6_bridge_c119 hc hK hP k63 hk63 v4 v5 v6 (0 : Int64) hf ls (lv_sub hl [0, 1, 2, 3, 4, 5] rfl)
def m_X6_bridge_c63 (o_n : Int32) (o_own0 : Int64) (o_own1 : Int64) (o_near : Nat → Int64) (p1 : Int32) (p3 : Int32) (k43 : Int32 → Int32 → Option (Int32)) : Nat → Int32 → Int32 → Int32 → Option (Int32)
  | 0, _, _, _ => none
  | n + 1, v4, v5, v6 => (if (o_n * o_n) ≤ v6 then (k43 v4 (v5 + (1 : Int32))) else (if (m_X6_has (m_X6_own o_own0 o_own1 p1) v5) = 0 then (m_X6_bridge_c118 p3 (m_X6_bridge_c63 o_n o_own0 o_own1 o_near p1 p3 k43 n) v4 v5 v6) else (if (m_X6_has (m_X6_own o_own0 o_own1 p1) v6) = 0 then (m_X6_bridge_c118 p3 (m_X6_bridge_c63 o_n o_own0 o_own1 o_near p1 p3 k43 n) v4 v5 v6) else ((m_X6_carrier o_near v5 v6 (m_X6_free o_n o_own0 o_own1)).bind fun u17 => (m_X6_bridge_c119 p3 (m_X6_bridge_c63 o_n o_own0 o_own1 o_near p1 p3 k43 n) v4 v5 v6 u17)))))
set_option maxHeartbeats 4000000 in
set_option maxRecDepth 100000 in
theorem w_X6_bridge_c63 {p : Program} {l : Launch} {e : Env} {s : State} {m : MethodId} {args : Array Value} {below : List Frame} {meth : Method} {c : Code} {D : va_G} {C : Nat → ClassId} {z0 : Nat} {z1 : Nat} {o_n : Int32} {r_o_game : Nat} {o_all : Int32} {o_made : Int32} {o_own0 : Int64} {o_own1 : Int64} {r_o_kept : Nat} {r_o_isKept : Nat} {r_o_threatOf : Nat} {r_o_threatSet : Nat} {o_threatMany : Int32} {r_o_text : Nat} {o_length : Int32} {r_o_far : Nat} {r_o_back : Nat} {r_o_hole : Nat} {o_holes : Int32} {r_o_isWon : Nat} {r_o_won : Nat} {r_o_lasts : Nat} {r_o_power : Nat} {r_o_told : Nat} {o_tellings : Int32} {o_near : Nat → Int64} {p1 : Int32} {p3 : Int32} {o : Int32} (hc : Cx p s m args meth c yX6_bridge cX6_bridge 10 (some .int)) (hK : va_K D vwCl (TY C) s) (hP : va_P D vwCl [cX6 z0 o_n r_o_game o_all o_made o_own0 o_own1 z1 r_o_kept r_o_isKept r_o_threatOf r_o_threatSet o_threatMany r_o_text o_length r_o_far r_o_back r_o_hole o_holes r_o_isWon r_o_won r_o_lasts r_o_power r_o_told o_tellings, aJ C z1 49 o_near] s.heap) (k43 : Int32 → Int32 → Option (Int32)) (hk43 : ∀ (v4 : Int32) (v5 : Int32), k43 v4 v5 = some o → ∀ (ls : Array Slot), lv_has ls 10 [(0, .ref z0), (1, .int p1), (3, .int p3), (4, .int v4), (5, .int v5)] → W p l e R_X6_bridge s m args below meth c s.heap [] 0 0 (MQ below (vp_Si (fun r => r = o)) args s 0 0 (fun _ => False)) (F0 m 43 ls [])) : ∀ (n : Nat), ∀ (v4 : Int32) (v5 : Int32) (v6 : Int32), m_X6_bridge_c63 o_n o_own0 o_own1 o_near p1 p3 k43 n v4 v5 v6 = some o → ∀ (ls : Array Slot), lv_has ls 10 [(0, .ref z0), (1, .int p1), (3, .int p3), (4, .int v4), (5, .int v5), (6, .int v6)] → W p l e R_X6_bridge s m args below meth c s.heap [] 0 0 (MQ below (vp_Si (fun r => r = o)) args s 0 0 (fun _ => False)) (F0 m 63 ls []) := by
  have hx := hc.1
  have hb := hc.2.1
  have hown := hc.2.2.2.2.1
  have hts := hc.2.2.2.2.2.1
  intro n
  induction n with
  | zero =>
    intro v4 v5 v6 hf
    exact no_some hf
  | succ n ih =>
    intro v4 v5 v6 hf ls hl
    refine lv_iload hx hb dX6_bridge_63 (lv_at hl 5 rfl) ?_
    refine lv_aload_n hx hb dX6_bridge_65 rfl (lv_at hl 0 rfl) ?_
    refine va_get (D := D) (ci := 6) (v := .int o_n) (C := RX6) (T := TX6) (N := 24) hx hb hts inX6 hown hK hP 0 rfl rfl 0 (by decide) (hts _ q_654) (fun _ h9 => h9) rfl dX6_bridge_66 ?_
    refine lv_aload_n hx hb dX6_bridge_69 rfl (lv_at hl 0 rfl) ?_
    refine va_get (D := D) (ci := 6) (v := .int o_n) (C := RX6) (T := TX6) (N := 24) hx hb hts inX6 hown hK hP 0 rfl rfl 0 (by decide) (hts _ q_654) (fun _ h9 => h9) rfl dX6_bridge_70 ?_
    refine lv_imul hx hb dX6_bridge_73 ?_
    refine lv_icmp_ge (tgt := 207) hx hb dX6_bridge_74 (by decide) (fun c6 => ?_) (fun c6 => ?_)
    · have hf := if_t hf c6
      refine lv_iinc (v := (v5 + (1 : Int32))) (lv' := [(5, .int (v5 + (1 : Int32))), (0, .ref z0), (1, .int p1), (3, .int p3), (4, .int v4), (6, .int v6)]) hx hb dX6_bridge_207 hl (k := 4) rfl rfl (by decide) rfl (fun ls hl => ?_)
      refine lv_goto (tgt := 43) hx hb dX6_bridge_210 (by decide) ?_
      exact hk43 v4 (v5 + (1 : Int32)) hf ls (lv_sub hl [1, 2, 3, 4, 0] rfl)
    · have hf := if_f hf c6
      refine lv_aload_n hx hb dX6_bridge_77 rfl (lv_at hl 0 rfl) ?_
      refine lv_iload_n hx hb dX6_bridge_78 rfl (lv_at hl 1 rfl) ?_
      refine rcVl (As := [.int p1]) (rest := []) hc k_X6_139 (c_X6_own l D C z0 o_n r_o_game o_all o_made o_own0 o_own1 z1 r_o_kept r_o_isKept r_o_threatOf r_o_threatSet o_threatMany r_o_text o_length r_o_far r_o_back r_o_hole o_holes r_o_isWon r_o_won r_o_lasts r_o_power r_o_told o_tellings p1  _ rfl) ⟨rfl, rfl, Nat.le_of_ble_eq_true rfl, Nat.le_of_ble_eq_true rfl⟩ (hP.sub [0] rfl) hK (q0 := 0) rfl rfl rfl hl rfl rfl (Nat.le_of_ble_eq_true rfl) ⟨Nat.zero_le _, Nat.zero_le _⟩ dX6_bridge_79 ?_
      refine lv_iload hx hb dX6_bridge_82 (lv_at hl 4 rfl) ?_
      refine rcSi (As := [.long (m_X6_own o_own0 o_own1 p1), .int v5]) (rest := []) hc k_X6_85 (c_X6_has l D C (m_X6_own o_own0 o_own1 p1) v5  _ rfl) ⟨rfl, rfl, Nat.le_of_ble_eq_true rfl, Nat.le_of_ble_eq_true rfl⟩ (hP.sub [] rfl) hK hl rfl rfl (Nat.le_of_ble_eq_true rfl) ⟨Nat.zero_le _, Nat.zero_le _⟩ dX6_bridge_84 ?_
      refine lv_if_eq (tgt := 118) hx hb dX6_bridge_87 (by decide) (fun c7 => ?_) (fun c7 => ?_)
      · have hf := if_t hf c7
        exact w_X6_bridge_c118 hc hK hP (m_X6_bridge_c63 o_n o_own0 o_own1 o_near p1 p3 k43 n) ih v4 v5 v6 hf ls (lv_sub hl [0, 1, 2, 3, 4, 5] rfl)
      · have hf := if_f hf c7
        refine lv_aload_n hx hb dX6_bridge_90 rfl (lv_at hl 0 rfl) ?_
        refine lv_iload_n hx hb dX6_bridge_91 rfl (lv_at hl 1 rfl) ?_
        refine rcVl (As := [.int p1]) (rest := []) hc k_X6_139 (c_X6_own l D C z0 o_n r_o_game o_all o_made o_own0 o_own1 z1 r_o_kept r_o_isKept r_o_threatOf r_o_threatSet o_threatMany r_o_text o_length r_o_far r_o_back r_o_hole o_holes r_o_isWon r_o_won r_o_lasts r_o_power r_o_told o_tellings p1  _ rfl) ⟨rfl, rfl, Nat.le_of_ble_eq_true rfl, Nat.le_of_ble_eq_true rfl⟩ (hP.sub [0] rfl) hK (q0 := 0) rfl rfl rfl hl rfl rfl (Nat.le_of_ble_eq_true rfl) ⟨Nat.zero_le _, Nat.zero_le _⟩ dX6_bridge_92 ?_
        refine lv_iload hx hb dX6_bridge_95 (lv_at hl 5 rfl) ?_
        refine rcSi (As := [.long (m_X6_own o_own0 o_own1 p1), .int v6]) (rest := []) hc k_X6_85 (c_X6_has l D C (m_X6_own o_own0 o_own1 p1) v6  _ rfl) ⟨rfl, rfl, Nat.le_of_ble_eq_true rfl, Nat.le_of_ble_eq_true rfl⟩ (hP.sub [] rfl) hK hl rfl rfl (Nat.le_of_ble_eq_true rfl) ⟨Nat.zero_le _, Nat.zero_le _⟩ dX6_bridge_97 ?_
        refine lv_if_eq (tgt := 118) hx hb dX6_bridge_100 (by decide) (fun c16 => ?_) (fun c16 => ?_)
        · have hf := if_t hf c16
          exact w_X6_bridge_c118 hc hK hP (m_X6_bridge_c63 o_n o_own0 o_own1 o_near p1 p3 k43 n) ih v4 v5 v6 hf ls (lv_sub hl [0, 1, 2, 3, 4, 5] rfl)
        · have hf := if_f hf c16
          refine lv_aload_n hx hb dX6_bridge_103 rfl (lv_at hl 0 rfl) ?_
          refine lv_iload hx hb dX6_bridge_104 (lv_at hl 4 rfl) ?_
          refine lv_iload hx hb dX6_bridge_106 (lv_at hl 5 rfl) ?_
          refine lv_aload_n hx hb dX6_bridge_108 rfl (lv_at hl 0 rfl) ?_
          refine rcVl (As := []) (rest := [.int v6, .int v5, .ref z0]) hc k_X6_126 (c_X6_free l D C z0 o_n r_o_game o_all o_made o_own0 o_own1 z1 r_o_kept r_o_isKept r_o_threatOf r_o_threatSet o_threatMany r_o_text o_length r_o_far r_o_back r_o_hole o_holes r_o_isWon r_o_won r_o_lasts r_o_power r_o_told o_tellings  _ rfl) ⟨rfl, rfl, Nat.le_of_ble_eq_true rfl, Nat.le_of_ble_eq_true rfl⟩ (hP.sub [0] rfl) hK (q0 := 0) rfl rfl rfl hl rfl rfl (Nat.le_of_ble_eq_true rfl) ⟨Nat.zero_le _, Nat.zero_le _⟩ dX6_bridge_109 ?_
          obtain ⟨u17, hu17, hf⟩ := bind_some hf
          refine rcVl (As := [.int v5, .int v6, .long (m_X6_free o_n o_own0 o_own1)]) (rest := []) hc k_X6_167 (c_X6_carrier l D C z0 z1 o_n r_o_game o_all o_made o_own0 o_own1 r_o_kept r_o_isKept r_o_threatOf r_o_threatSet o_threatMany r_o_text o_length r_o_far r_o_back r_o_hole o_holes r_o_isWon r_o_won r_o_lasts r_o_power r_o_told o_tellings o_near v5 v6 (m_X6_free o_n o_own0 o_own1)  _ hu17) ⟨rfl, rfl, Nat.le_of_ble_eq_true rfl, Nat.le_of_ble_eq_true rfl⟩ (hP.sub [0, 1] rfl) hK (q0 := 0) rfl rfl rfl hl rfl rfl (Nat.le_of_ble_eq_true rfl) ⟨Nat.zero_le _, Nat.zero_le _⟩ dX6_bridge_112 ?_
          refine lv_goto (tgt := 119) hx hb dX6_bridge_115 (by decide) ?_
          exact w_X6_bridge_c119 hc hK hP (m_X6_bridge_c63 o_n o_own0 o_own1 o_near p1 p3 k43 n) ih v4 v5 v6 u17 hf ls (lv_sub hl [0, 1, 2, 3, 4, 5] rfl)
def m_X6_bridge_c43 (o_n : Int32) (o_own0 : Int64) (o_own1 : Int64) (o_near : Nat → Int64) (p1 : Int32) (p3 : Int32)  : Nat → Int32 → Int32 → Option (Int32)
  | 0, _, _ => none
  | n + 1, v4, v5 => (if (o_n * o_n) ≤ v5 then some (-11 : Int32) else (m_X6_bridge_c63 o_n o_own0 o_own1 o_near p1 p3 (m_X6_bridge_c43 o_n o_own0 o_own1 o_near p1 p3  n) FU v4 v5 (v5 + (1 : Int32))))
set_option maxHeartbeats 4000000 in
set_option maxRecDepth 100000 in
theorem w_X6_bridge_c43 {p : Program} {l : Launch} {e : Env} {s : State} {m : MethodId} {args : Array Value} {below : List Frame} {meth : Method} {c : Code} {D : va_G} {C : Nat → ClassId} {z0 : Nat} {z1 : Nat} {o_n : Int32} {r_o_game : Nat} {o_all : Int32} {o_made : Int32} {o_own0 : Int64} {o_own1 : Int64} {r_o_kept : Nat} {r_o_isKept : Nat} {r_o_threatOf : Nat} {r_o_threatSet : Nat} {o_threatMany : Int32} {r_o_text : Nat} {o_length : Int32} {r_o_far : Nat} {r_o_back : Nat} {r_o_hole : Nat} {o_holes : Int32} {r_o_isWon : Nat} {r_o_won : Nat} {r_o_lasts : Nat} {r_o_power : Nat} {r_o_told : Nat} {o_tellings : Int32} {o_near : Nat → Int64} {p1 : Int32} {p3 : Int32} {o : Int32} (hc : Cx p s m args meth c yX6_bridge cX6_bridge 10 (some .int)) (hK : va_K D vwCl (TY C) s) (hP : va_P D vwCl [cX6 z0 o_n r_o_game o_all o_made o_own0 o_own1 z1 r_o_kept r_o_isKept r_o_threatOf r_o_threatSet o_threatMany r_o_text o_length r_o_far r_o_back r_o_hole o_holes r_o_isWon r_o_won r_o_lasts r_o_power r_o_told o_tellings, aJ C z1 49 o_near] s.heap) : ∀ (n : Nat), ∀ (v4 : Int32) (v5 : Int32), m_X6_bridge_c43 o_n o_own0 o_own1 o_near p1 p3  n v4 v5 = some o → ∀ (ls : Array Slot), lv_has ls 10 [(0, .ref z0), (1, .int p1), (3, .int p3), (4, .int v4), (5, .int v5)] → W p l e R_X6_bridge s m args below meth c s.heap [] 0 0 (MQ below (vp_Si (fun r => r = o)) args s 0 0 (fun _ => False)) (F0 m 43 ls []) := by
  have hx := hc.1
  have hb := hc.2.1
  have hown := hc.2.2.2.2.1
  have hts := hc.2.2.2.2.2.1
  intro n
  induction n with
  | zero =>
    intro v4 v5 hf
    exact no_some hf
  | succ n ih =>
    intro v4 v5 hf ls hl
    refine lv_iload hx hb dX6_bridge_43 (lv_at hl 4 rfl) ?_
    refine lv_aload_n hx hb dX6_bridge_45 rfl (lv_at hl 0 rfl) ?_
    refine va_get (D := D) (ci := 6) (v := .int o_n) (C := RX6) (T := TX6) (N := 24) hx hb hts inX6 hown hK hP 0 rfl rfl 0 (by decide) (hts _ q_654) (fun _ h9 => h9) rfl dX6_bridge_46 ?_
    refine lv_aload_n hx hb dX6_bridge_49 rfl (lv_at hl 0 rfl) ?_
    refine va_get (D := D) (ci := 6) (v := .int o_n) (C := RX6) (T := TX6) (N := 24) hx hb hts inX6 hown hK hP 0 rfl rfl 0 (by decide) (hts _ q_654) (fun _ h9 => h9) rfl dX6_bridge_50 ?_
    refine lv_imul hx hb dX6_bridge_53 ?_
    refine lv_icmp_ge (tgt := 213) hx hb dX6_bridge_54 (by decide) (fun c5 => ?_) (fun c5 => ?_)
    · have hf := if_t hf c5
      refine lv_bipush (v := (-11 : Int32)) hx hb dX6_bridge_213 (by decide) ?_
      exact rRi hc (Option.some.inj hf) dX6_bridge_215
    · have hf := if_f hf c5
      refine lv_iload hx hb dX6_bridge_57 (lv_at hl 4 rfl) ?_
      refine lv_iconst (v := (1 : Int32)) hx hb dX6_bridge_59 (by decide) ?_
      refine lv_iadd hx hb dX6_bridge_60 ?_
      refine lv_istore (lv' := [(6, .int (v5 + (1 : Int32))), (0, .ref z0), (1, .int p1), (3, .int p3), (4, .int v4), (5, .int v5)]) hx hb dX6_bridge_61 hl (by decide) rfl (fun ls hl => ?_)
      exact w_X6_bridge_c63 hc hK hP (m_X6_bridge_c43 o_n o_own0 o_own1 o_near p1 p3  n) ih FU v4 v5 (v5 + (1 : Int32)) hf ls (lv_sub hl [1, 2, 3, 4, 5, 0] rfl)
def m_X6_bridge (o_n : Int32) (o_own0 : Int64) (o_own1 : Int64) (o_near : Nat → Int64) (p1 : Int32) (p2 : Int32) (p3 : Int32) : Option (Int32) := (if (m_X6_isPlayer p1) = 0 then some (-11 : Int32) else ((m_X6_bridges o_n o_own0 o_own1 o_near p1).bind fun u2 => (if (m_X6_in p2 (0 : Int32) (u2 - (1 : Int32))) = 0 then some (-11 : Int32) else (if (m_X6_in p3 (0 : Int32) (3 : Int32)) = 0 then some (-12 : Int32) else (m_X6_bridge_c43 o_n o_own0 o_own1 o_near p1 p3 FU p2 (0 : Int32))))))
set_option maxHeartbeats 4000000 in
set_option maxRecDepth 100000 in
theorem c_X6_bridge (l : Launch) (D : va_G) (C : Nat → ClassId) (z0 : Nat) (z1 : Nat) (o_n : Int32) (r_o_game : Nat) (o_all : Int32) (o_made : Int32) (o_own0 : Int64) (o_own1 : Int64) (r_o_kept : Nat) (r_o_isKept : Nat) (r_o_threatOf : Nat) (r_o_threatSet : Nat) (o_threatMany : Int32) (r_o_text : Nat) (o_length : Int32) (r_o_far : Nat) (r_o_back : Nat) (r_o_hole : Nat) (o_holes : Int32) (r_o_isWon : Nat) (r_o_won : Nat) (r_o_lasts : Nat) (r_o_power : Nat) (r_o_told : Nat) (o_tellings : Int32) (o_near : Nat → Int64) (p1 : Int32) (p2 : Int32) (p3 : Int32) (o : Int32) (hf : m_X6_bridge o_n o_own0 o_own1 o_near p1 p2 p3 = some o) : Met l yX6_bridge (wl yX6_bridge cX6_bridge 10 (some .int)) R_X6_bridge (PR [.ref z0, .int p1, .int p2, .int p3] D C [cX6 z0 o_n r_o_game o_all o_made o_own0 o_own1 z1 r_o_kept r_o_isKept r_o_threatOf r_o_threatSet o_threatMany r_o_text o_length r_o_far r_o_back r_o_hole o_holes r_o_isWon r_o_won r_o_lasts r_o_power r_o_told o_tellings, aJ C z1 49 o_near]) (vp_Si (fun r => r = o)) 0 0 (fun _ => False) := by
  refine Met_ofC (by decide) ?_
  intro p e s m args below meth c hc hv
  obtain ⟨rfl, hP, hK⟩ := hv
  have hx := hc.1
  have hb := hc.2.1
  have hown := hc.2.2.2.2.1
  have hts := hc.2.2.2.2.2.1
  refine en_F rfl (fun ls hl => ?_)
  have hl : lv_has ls 10 [(0, .ref z0), (1, .int p1), (2, .int p2), (3, .int p3)] := hl
  refine lv_iload_n hx hb dX6_bridge_0 rfl (lv_at hl 1 rfl) ?_
  refine rcSi (As := [.int p1]) (rest := []) hc k_X6_136 (c_X6_isPlayer l D C p1  _ rfl) ⟨rfl, rfl, Nat.le_of_ble_eq_true rfl, Nat.le_of_ble_eq_true rfl⟩ (hP.sub [] rfl) hK hl rfl rfl (Nat.le_of_ble_eq_true rfl) ⟨Nat.zero_le _, Nat.zero_le _⟩ dX6_bridge_1 ?_
  refine lv_if_eq (tgt := 22) hx hb dX6_bridge_4 (by decide) (fun c1 => ?_) (fun c1 => ?_)
  · have hf := if_t hf c1
    refine lv_bipush (v := (-11 : Int32)) hx hb dX6_bridge_22 (by decide) ?_
    exact rRi hc (Option.some.inj hf) dX6_bridge_24
  · have hf := if_f hf c1
    refine lv_iload_n hx hb dX6_bridge_7 rfl (lv_at hl 2 rfl) ?_
    refine lv_iconst (v := (0 : Int32)) hx hb dX6_bridge_8 (by decide) ?_
    refine lv_aload_n hx hb dX6_bridge_9 rfl (lv_at hl 0 rfl) ?_
    refine lv_iload_n hx hb dX6_bridge_10 rfl (lv_at hl 1 rfl) ?_
    obtain ⟨u2, hu2, hf⟩ := bind_some hf
    refine rcVi (As := [.int p1]) (rest := [.int (0 : Int32), .int p2]) hc k_X6_171 (c_X6_bridges l D C z0 z1 o_n r_o_game o_all o_made o_own0 o_own1 r_o_kept r_o_isKept r_o_threatOf r_o_threatSet o_threatMany r_o_text o_length r_o_far r_o_back r_o_hole o_holes r_o_isWon r_o_won r_o_lasts r_o_power r_o_told o_tellings o_near p1  _ hu2) ⟨rfl, rfl, Nat.le_of_ble_eq_true rfl, Nat.le_of_ble_eq_true rfl⟩ (hP.sub [0, 1] rfl) hK (q0 := 0) rfl rfl rfl hl rfl rfl (Nat.le_of_ble_eq_true rfl) ⟨Nat.zero_le _, Nat.zero_le _⟩ dX6_bridge_11 ?_
    refine lv_iconst (v := (1 : Int32)) hx hb dX6_bridge_14 (by decide) ?_
    refine lv_isub hx hb dX6_bridge_15 ?_
    refine rcSi (As := [.int p2, .int (0 : Int32), .int (u2 - (1 : Int32))]) (rest := []) hc k_X6_64 (c_X6_in l D C p2 (0 : Int32) (u2 - (1 : Int32))  _ rfl) ⟨rfl, rfl, Nat.le_of_ble_eq_true rfl, Nat.le_of_ble_eq_true rfl⟩ (hP.sub [] rfl) hK hl rfl rfl (Nat.le_of_ble_eq_true rfl) ⟨Nat.zero_le _, Nat.zero_le _⟩ dX6_bridge_16 ?_
    refine lv_if_ne (tgt := 25) hx hb dX6_bridge_19 (by decide) (fun c3 => ?_) (fun c3 => ?_)
    · have hf := if_f hf c3
      refine lv_iload_n hx hb dX6_bridge_25 rfl (lv_at hl 3 rfl) ?_
      refine lv_iconst (v := (0 : Int32)) hx hb dX6_bridge_26 (by decide) ?_
      refine lv_iconst (v := (3 : Int32)) hx hb dX6_bridge_27 (by decide) ?_
      refine rcSi (As := [.int p3, .int (0 : Int32), .int (3 : Int32)]) (rest := []) hc k_X6_64 (c_X6_in l D C p3 (0 : Int32) (3 : Int32)  _ rfl) ⟨rfl, rfl, Nat.le_of_ble_eq_true rfl, Nat.le_of_ble_eq_true rfl⟩ (hP.sub [] rfl) hK hl rfl rfl (Nat.le_of_ble_eq_true rfl) ⟨Nat.zero_le _, Nat.zero_le _⟩ dX6_bridge_28 ?_
      refine lv_if_ne (tgt := 37) hx hb dX6_bridge_31 (by decide) (fun c4 => ?_) (fun c4 => ?_)
      · have hf := if_f hf c4
        refine lv_iload_n hx hb dX6_bridge_37 rfl (lv_at hl 2 rfl) ?_
        refine lv_istore (lv' := [(4, .int p2), (0, .ref z0), (1, .int p1), (2, .int p2), (3, .int p3)]) hx hb dX6_bridge_38 hl (by decide) rfl (fun ls hl => ?_)
        refine lv_iconst (v := (0 : Int32)) hx hb dX6_bridge_40 (by decide) ?_
        refine lv_istore (lv' := [(5, .int (0 : Int32)), (4, .int p2), (0, .ref z0), (1, .int p1), (2, .int p2), (3, .int p3)]) hx hb dX6_bridge_41 hl (by decide) rfl (fun ls hl => ?_)
        exact w_X6_bridge_c43 hc hK hP  FU p2 (0 : Int32) hf ls (lv_sub hl [2, 3, 5, 1, 0] rfl)
      · have hf := if_t hf c4
        refine lv_bipush (v := (-12 : Int32)) hx hb dX6_bridge_34 (by decide) ?_
        exact rRi hc (Option.some.inj hf) dX6_bridge_36
    · have hf := if_t hf c3
      refine lv_bipush (v := (-11 : Int32)) hx hb dX6_bridge_22 (by decide) ?_
      exact rRi hc (Option.some.inj hf) dX6_bridge_24
abbrev R_X6_answersNow : Room := { frames := 2, cells := 0, slots := 0, locals := 50 }
def m_X6_answersNow_c157  (k84 : Int32 → Int64 → Int64 → Int64 → Int32 → Int32 → Option (Int64)) (v1 : Int32) (v2 : Int64) (v4 : Int64) (v8 : Int32) (v9 : Int32) (t0 : Int64) (t1 : Int64) : Option (Int64) := (k84 v1 v2 v4 (t1 ||| t0) v8 (v9 + (1 : Int32)))
set_option maxHeartbeats 4000000 in
set_option maxRecDepth 100000 in
theorem w_X6_answersNow_c157 {p : Program} {l : Launch} {e : Env} {s : State} {m : MethodId} {args : Array Value} {below : List Frame} {meth : Method} {c : Code} {D : va_G} {C : Nat → ClassId} {z0 : Nat} {z1 : Nat} {z2 : Nat} {o_n : Int32} {o_all : Int32} {o_made : Int32} {o_own0 : Int64} {o_own1 : Int64} {r_o_kept : Nat} {r_o_isKept : Nat} {r_o_threatOf : Nat} {r_o_threatSet : Nat} {o_threatMany : Int32} {r_o_text : Nat} {o_length : Int32} {r_o_far : Nat} {r_o_back : Nat} {r_o_hole : Nat} {o_holes : Int32} {r_o_isWon : Nat} {r_o_won : Nat} {r_o_lasts : Nat} {r_o_power : Nat} {r_o_told : Nat} {o_tellings : Int32} {o_game : Nat → Int32} {o_near : Nat → Int64} {o : Int64} (hc : Cx p s m args meth c yX6_answersNow cX6_answersNow 12 (some .long)) (hK : va_K D vwCl (TY C) s) (hP : va_P D vwCl [cX6 z0 o_n z1 o_all o_made o_own0 o_own1 z2 r_o_kept r_o_isKept r_o_threatOf r_o_threatSet o_threatMany r_o_text o_length r_o_far r_o_back r_o_hole o_holes r_o_isWon r_o_won r_o_lasts r_o_power r_o_told o_tellings, aI C z1 64 o_game, aJ C z2 49 o_near] s.heap) (k84 : Int32 → Int64 → Int64 → Int64 → Int32 → Int32 → Option (Int64)) (hk84 : ∀ (v1 : Int32) (v2 : Int64) (v4 : Int64) (v6 : Int64) (v8 : Int32) (v9 : Int32), k84 v1 v2 v4 v6 v8 v9 = some o → ∀ (ls : Array Slot), lv_has ls 12 [(0, .ref z0), (1, .int v1), (2, .long v2), (4, .long v4), (6, .long v6), (8, .int v8), (9, .int v9)] → W p l e R_X6_answersNow s m args below meth c s.heap [] 0 0 (MQ below (vp_Sl (fun r => r = o)) args s 0 0 (fun _ => False)) (F0 m 84 ls [])) : ∀ (v1 : Int32) (v2 : Int64) (v4 : Int64) (v8 : Int32) (v9 : Int32) (t0 : Int64) (t1 : Int64), m_X6_answersNow_c157  k84 v1 v2 v4 v8 v9 t0 t1 = some o → ∀ (ls : Array Slot), lv_has ls 12 [(0, .ref z0), (1, .int v1), (2, .long v2), (4, .long v4), (8, .int v8), (9, .int v9)] → W p l e R_X6_answersNow s m args below meth c s.heap [] 0 0 (MQ below (vp_Sl (fun r => r = o)) args s 0 0 (fun _ => False)) (F0 m 157 ls [.long t0, .long t1]) := by
  have hx := hc.1
  have hb := hc.2.1
  have hown := hc.2.2.2.2.1
  have hts := hc.2.2.2.2.2.1
  intro v1 v2 v4 v8 v9 t0 t1 hf ls hl
  refine lv_lor hx hb dX6_answersNow_157 ?_
  refine lv_lstore (lv' := [(6, .long (t1 ||| t0)), (0, .ref z0), (1, .int v1), (2, .long v2), (4, .long v4), (8, .int v8), (9, .int v9)]) hx hb dX6_answersNow_158 hl (by decide) rfl (fun ls hl => ?_)
  refine lv_iinc (v := (v9 + (1 : Int32))) (lv' := [(9, .int (v9 + (1 : Int32))), (6, .long (t1 ||| t0)), (0, .ref z0), (1, .int v1), (2, .long v2), (4, .long v4), (8, .int v8)]) hx hb dX6_answersNow_160 hl (k := 6) rfl rfl (by decide) rfl (fun ls hl => ?_)
  refine lv_goto (tgt := 84) hx hb dX6_answersNow_163 (by decide) ?_
  exact hk84 v1 v2 v4 (t1 ||| t0) v8 (v9 + (1 : Int32)) hf ls (lv_sub hl [2, 3, 4, 5, 1, 6, 0] rfl)
def m_X6_answersNow_c130  (k84 : Int32 → Int64 → Int64 → Int64 → Int32 → Int32 → Option (Int64)) (v1 : Int32) (v2 : Int64) (v4 : Int64) (v6 : Int64) (v8 : Int32) (v9 : Int32) (t0 : Int64) : Option (Int64) := (if (m_X6_has t0 v1) = 0 then (m_X6_answersNow_c157 k84 v1 v2 v4 v8 v9 (0 : Int64) v6) else (m_X6_answersNow_c157 k84 v1 v2 v4 v8 v9 (t0 &&& ((jshl (1 : Int64) v1) ^^^ (-1 : Int64))) v6))
set_option maxHeartbeats 4000000 in
set_option maxRecDepth 100000 in
theorem w_X6_answersNow_c130 {p : Program} {l : Launch} {e : Env} {s : State} {m : MethodId} {args : Array Value} {below : List Frame} {meth : Method} {c : Code} {D : va_G} {C : Nat → ClassId} {z0 : Nat} {z1 : Nat} {z2 : Nat} {o_n : Int32} {o_all : Int32} {o_made : Int32} {o_own0 : Int64} {o_own1 : Int64} {r_o_kept : Nat} {r_o_isKept : Nat} {r_o_threatOf : Nat} {r_o_threatSet : Nat} {o_threatMany : Int32} {r_o_text : Nat} {o_length : Int32} {r_o_far : Nat} {r_o_back : Nat} {r_o_hole : Nat} {o_holes : Int32} {r_o_isWon : Nat} {r_o_won : Nat} {r_o_lasts : Nat} {r_o_power : Nat} {r_o_told : Nat} {o_tellings : Int32} {o_game : Nat → Int32} {o_near : Nat → Int64} {o : Int64} (hc : Cx p s m args meth c yX6_answersNow cX6_answersNow 12 (some .long)) (hK : va_K D vwCl (TY C) s) (hP : va_P D vwCl [cX6 z0 o_n z1 o_all o_made o_own0 o_own1 z2 r_o_kept r_o_isKept r_o_threatOf r_o_threatSet o_threatMany r_o_text o_length r_o_far r_o_back r_o_hole o_holes r_o_isWon r_o_won r_o_lasts r_o_power r_o_told o_tellings, aI C z1 64 o_game, aJ C z2 49 o_near] s.heap) (k84 : Int32 → Int64 → Int64 → Int64 → Int32 → Int32 → Option (Int64)) (hk84 : ∀ (v1 : Int32) (v2 : Int64) (v4 : Int64) (v6 : Int64) (v8 : Int32) (v9 : Int32), k84 v1 v2 v4 v6 v8 v9 = some o → ∀ (ls : Array Slot), lv_has ls 12 [(0, .ref z0), (1, .int v1), (2, .long v2), (4, .long v4), (6, .long v6), (8, .int v8), (9, .int v9)] → W p l e R_X6_answersNow s m args below meth c s.heap [] 0 0 (MQ below (vp_Sl (fun r => r = o)) args s 0 0 (fun _ => False)) (F0 m 84 ls [])) : ∀ (v1 : Int32) (v2 : Int64) (v4 : Int64) (v6 : Int64) (v8 : Int32) (v9 : Int32) (t0 : Int64), m_X6_answersNow_c130  k84 v1 v2 v4 v6 v8 v9 t0 = some o → ∀ (ls : Array Slot), lv_has ls 12 [(0, .ref z0), (1, .int v1), (2, .long v2), (4, .long v4), (6, .long v6), (8, .int v8), (9, .int v9)] → W p l e R_X6_answersNow s m args below meth c s.heap [] 0 0 (MQ below (vp_Sl (fun r => r = o)) args s 0 0 (fun _ => False)) (F0 m 130 ls [.long t0]) := by
  have hx := hc.1
  have hb := hc.2.1
  have hown := hc.2.2.2.2.1
  have hts := hc.2.2.2.2.2.1
  intro v1 v2 v4 v6 v8 v9 t0 hf ls hl
  refine lv_lstore (lv' := [(10, .long t0), (0, .ref z0), (1, .int v1), (2, .long v2), (4, .long v4), (6, .long v6), (8, .int v8), (9, .int v9)]) hx hb dX6_answersNow_130 hl (by decide) rfl (fun ls hl => ?_)
  refine lv_lload hx hb dX6_answersNow_132 (lv_at hl 5 rfl) ?_
  refine lv_lload hx hb dX6_answersNow_134 (lv_at hl 0 rfl) ?_
  refine lv_iload_n hx hb dX6_answersNow_136 rfl (lv_at hl 2 rfl) ?_
  refine rcSi (As := [.long t0, .int v1]) (rest := [.long v6]) hc k_X6_85 (c_X6_has l D C t0 v1  _ rfl) ⟨rfl, rfl, Nat.le_of_ble_eq_true rfl, Nat.le_of_ble_eq_true rfl⟩ (hP.sub [] rfl) hK hl rfl rfl (Nat.le_of_ble_eq_true rfl) ⟨Nat.zero_le _, Nat.zero_le _⟩ dX6_answersNow_137 ?_
  refine lv_if_eq (tgt := 156) hx hb dX6_answersNow_140 (by decide) (fun c9 => ?_) (fun c9 => ?_)
  · have hf := if_t hf c9
    refine lv_lconst (v := (0 : Int64)) hx hb dX6_answersNow_156 (by decide) ?_
    exact w_X6_answersNow_c157 hc hK hP k84 hk84 v1 v2 v4 v8 v9 (0 : Int64) v6 hf ls (lv_sub hl [1, 2, 3, 4, 6, 7] rfl)
  · have hf := if_f hf c9
    refine lv_lload hx hb dX6_answersNow_143 (lv_at hl 0 rfl) ?_
    refine lv_lconst (v := (1 : Int64)) hx hb dX6_answersNow_145 (by decide) ?_
    refine lv_iload_n hx hb dX6_answersNow_146 rfl (lv_at hl 2 rfl) ?_
    refine lv_lshl (v := (jshl (1 : Int64) v1)) hx hb dX6_answersNow_147 rfl ?_
    refine lv_ldc2 (v := (-1 : Int64)) hx hb hown (hts _ q_760) dX6_answersNow_148 ?_
    refine lv_lxor hx hb dX6_answersNow_151 ?_
    refine lv_land hx hb dX6_answersNow_152 ?_
    refine lv_goto (tgt := 157) hx hb dX6_answersNow_153 (by decide) ?_
    exact w_X6_answersNow_c157 hc hK hP k84 hk84 v1 v2 v4 v8 v9 (t0 &&& ((jshl (1 : Int64) v1) ^^^ (-1 : Int64))) v6 hf ls (lv_sub hl [1, 2, 3, 4, 6, 7] rfl)
def m_X6_answersNow_c129  (k84 : Int32 → Int64 → Int64 → Int64 → Int32 → Int32 → Option (Int64)) (v1 : Int32) (v2 : Int64) (v4 : Int64) (v6 : Int64) (v8 : Int32) (v9 : Int32) : Option (Int64) := (m_X6_answersNow_c130 k84 v1 v2 v4 v6 v8 v9 (0 : Int64))
set_option maxHeartbeats 4000000 in
set_option maxRecDepth 100000 in
theorem w_X6_answersNow_c129 {p : Program} {l : Launch} {e : Env} {s : State} {m : MethodId} {args : Array Value} {below : List Frame} {meth : Method} {c : Code} {D : va_G} {C : Nat → ClassId} {z0 : Nat} {z1 : Nat} {z2 : Nat} {o_n : Int32} {o_all : Int32} {o_made : Int32} {o_own0 : Int64} {o_own1 : Int64} {r_o_kept : Nat} {r_o_isKept : Nat} {r_o_threatOf : Nat} {r_o_threatSet : Nat} {o_threatMany : Int32} {r_o_text : Nat} {o_length : Int32} {r_o_far : Nat} {r_o_back : Nat} {r_o_hole : Nat} {o_holes : Int32} {r_o_isWon : Nat} {r_o_won : Nat} {r_o_lasts : Nat} {r_o_power : Nat} {r_o_told : Nat} {o_tellings : Int32} {o_game : Nat → Int32} {o_near : Nat → Int64} {o : Int64} (hc : Cx p s m args meth c yX6_answersNow cX6_answersNow 12 (some .long)) (hK : va_K D vwCl (TY C) s) (hP : va_P D vwCl [cX6 z0 o_n z1 o_all o_made o_own0 o_own1 z2 r_o_kept r_o_isKept r_o_threatOf r_o_threatSet o_threatMany r_o_text o_length r_o_far r_o_back r_o_hole o_holes r_o_isWon r_o_won r_o_lasts r_o_power r_o_told o_tellings, aI C z1 64 o_game, aJ C z2 49 o_near] s.heap) (k84 : Int32 → Int64 → Int64 → Int64 → Int32 → Int32 → Option (Int64)) (hk84 : ∀ (v1 : Int32) (v2 : Int64) (v4 : Int64) (v6 : Int64) (v8 : Int32) (v9 : Int32), k84 v1 v2 v4 v6 v8 v9 = some o → ∀ (ls : Array Slot), lv_has ls 12 [(0, .ref z0), (1, .int v1), (2, .long v2), (4, .long v4), (6, .long v6), (8, .int v8), (9, .int v9)] → W p l e R_X6_answersNow s m args below meth c s.heap [] 0 0 (MQ below (vp_Sl (fun r => r = o)) args s 0 0 (fun _ => False)) (F0 m 84 ls [])) : ∀ (v1 : Int32) (v2 : Int64) (v4 : Int64) (v6 : Int64) (v8 : Int32) (v9 : Int32), m_X6_answersNow_c129  k84 v1 v2 v4 v6 v8 v9 = some o → ∀ (ls : Array Slot), lv_has ls 12 [(0, .ref z0), (1, .int v1), (2, .long v2), (4, .long v4), (6, .long v6), (8, .int v8), (9, .int v9)] → W p l e R_X6_answersNow s m args below meth c s.heap [] 0 0 (MQ below (vp_Sl (fun r => r = o)) args s 0 0 (fun _ => False)) (F0 m 129 ls []) := by
  have hx := hc.1
  have hb := hc.2.1
  have hown := hc.2.2.2.2.1
  have hts := hc.2.2.2.2.2.1
  intro v1 v2 v4 v6 v8 v9 hf ls hl
  refine lv_lconst (v := (0 : Int64)) hx hb dX6_answersNow_129 (by decide) ?_
  exact w_X6_answersNow_c130 hc hK hP k84 hk84 v1 v2 v4 v6 v8 v9 (0 : Int64) hf ls (lv_sub hl [0, 1, 2, 3, 4, 5, 6] rfl)
def m_X6_answersNow_c84 (o_n : Int32) (o_near : Nat → Int64) (k64 : Int32 → Int64 → Int64 → Int64 → Int32 → Option (Int64)) : Nat → Int32 → Int64 → Int64 → Int64 → Int32 → Int32 → Option (Int64)
  | 0, _, _, _, _, _, _ => none
  | n + 1, v1, v2, v4, v6, v8, v9 => (if (o_n * o_n) ≤ v9 then (k64 v1 v2 v4 v6 (v8 + (1 : Int32))) else (if (m_X6_has v2 v8) = 0 then (m_X6_answersNow_c129 (m_X6_answersNow_c84 o_n o_near k64 n) v1 v2 v4 v6 v8 v9) else (if (m_X6_has v2 v9) = 0 then (m_X6_answersNow_c129 (m_X6_answersNow_c84 o_n o_near k64 n) v1 v2 v4 v6 v8 v9) else ((m_X6_carrier o_near v8 v9 v4).bind fun u11 => (m_X6_answersNow_c130 (m_X6_answersNow_c84 o_n o_near k64 n) v1 v2 v4 v6 v8 v9 u11)))))
set_option maxHeartbeats 4000000 in
set_option maxRecDepth 100000 in
theorem w_X6_answersNow_c84 {p : Program} {l : Launch} {e : Env} {s : State} {m : MethodId} {args : Array Value} {below : List Frame} {meth : Method} {c : Code} {D : va_G} {C : Nat → ClassId} {z0 : Nat} {z1 : Nat} {z2 : Nat} {o_n : Int32} {o_all : Int32} {o_made : Int32} {o_own0 : Int64} {o_own1 : Int64} {r_o_kept : Nat} {r_o_isKept : Nat} {r_o_threatOf : Nat} {r_o_threatSet : Nat} {o_threatMany : Int32} {r_o_text : Nat} {o_length : Int32} {r_o_far : Nat} {r_o_back : Nat} {r_o_hole : Nat} {o_holes : Int32} {r_o_isWon : Nat} {r_o_won : Nat} {r_o_lasts : Nat} {r_o_power : Nat} {r_o_told : Nat} {o_tellings : Int32} {o_game : Nat → Int32} {o_near : Nat → Int64} {o : Int64} (hc : Cx p s m args meth c yX6_answersNow cX6_answersNow 12 (some .long)) (hK : va_K D vwCl (TY C) s) (hP : va_P D vwCl [cX6 z0 o_n z1 o_all o_made o_own0 o_own1 z2 r_o_kept r_o_isKept r_o_threatOf r_o_threatSet o_threatMany r_o_text o_length r_o_far r_o_back r_o_hole o_holes r_o_isWon r_o_won r_o_lasts r_o_power r_o_told o_tellings, aI C z1 64 o_game, aJ C z2 49 o_near] s.heap) (k64 : Int32 → Int64 → Int64 → Int64 → Int32 → Option (Int64)) (hk64 : ∀ (v1 : Int32) (v2 : Int64) (v4 : Int64) (v6 : Int64) (v8 : Int32), k64 v1 v2 v4 v6 v8 = some o → ∀ (ls : Array Slot), lv_has ls 12 [(0, .ref z0), (1, .int v1), (2, .long v2), (4, .long v4), (6, .long v6), (8, .int v8)] → W p l e R_X6_answersNow s m args below meth c s.heap [] 0 0 (MQ below (vp_Sl (fun r => r = o)) args s 0 0 (fun _ => False)) (F0 m 64 ls [])) : ∀ (n : Nat), ∀ (v1 : Int32) (v2 : Int64) (v4 : Int64) (v6 : Int64) (v8 : Int32) (v9 : Int32), m_X6_answersNow_c84 o_n o_near k64 n v1 v2 v4 v6 v8 v9 = some o → ∀ (ls : Array Slot), lv_has ls 12 [(0, .ref z0), (1, .int v1), (2, .long v2), (4, .long v4), (6, .long v6), (8, .int v8), (9, .int v9)] → W p l e R_X6_answersNow s m args below meth c s.heap [] 0 0 (MQ below (vp_Sl (fun r => r = o)) args s 0 0 (fun _ => False)) (F0 m 84 ls []) := by
  have hx := hc.1
  have hb := hc.2.1
  have hown := hc.2.2.2.2.1
  have hts := hc.2.2.2.2.2.1
  intro n
  induction n with
  | zero =>
    intro v1 v2 v4 v6 v8 v9 hf
    exact no_some hf
  | succ n ih =>
    intro v1 v2 v4 v6 v8 v9 hf ls hl
    refine lv_iload hx hb dX6_answersNow_84 (lv_at hl 6 rfl) ?_
    refine lv_aload_n hx hb dX6_answersNow_86 rfl (lv_at hl 0 rfl) ?_
    refine va_get (D := D) (ci := 6) (v := .int o_n) (C := RX6) (T := TX6) (N := 24) hx hb hts inX6 hown hK hP 0 rfl rfl 0 (by decide) (hts _ q_654) (fun _ h9 => h9) rfl dX6_answersNow_87 ?_
    refine lv_aload_n hx hb dX6_answersNow_90 rfl (lv_at hl 0 rfl) ?_
    refine va_get (D := D) (ci := 6) (v := .int o_n) (C := RX6) (T := TX6) (N := 24) hx hb hts inX6 hown hK hP 0 rfl rfl 0 (by decide) (hts _ q_654) (fun _ h9 => h9) rfl dX6_answersNow_91 ?_
    refine lv_imul hx hb dX6_answersNow_94 ?_
    refine lv_icmp_ge (tgt := 166) hx hb dX6_answersNow_95 (by decide) (fun c7 => ?_) (fun c7 => ?_)
    · have hf := if_t hf c7
      refine lv_iinc (v := (v8 + (1 : Int32))) (lv' := [(8, .int (v8 + (1 : Int32))), (0, .ref z0), (1, .int v1), (2, .long v2), (4, .long v4), (6, .long v6), (9, .int v9)]) hx hb dX6_answersNow_166 hl (k := 5) rfl rfl (by decide) rfl (fun ls hl => ?_)
      refine lv_goto (tgt := 64) hx hb dX6_answersNow_169 (by decide) ?_
      exact hk64 v1 v2 v4 v6 (v8 + (1 : Int32)) hf ls (lv_sub hl [1, 2, 3, 4, 5, 0] rfl)
    · have hf := if_f hf c7
      refine lv_lload_n hx hb dX6_answersNow_98 rfl (lv_at hl 2 rfl) ?_
      refine lv_iload hx hb dX6_answersNow_99 (lv_at hl 5 rfl) ?_
      refine rcSi (As := [.long v2, .int v8]) (rest := []) hc k_X6_85 (c_X6_has l D C v2 v8  _ rfl) ⟨rfl, rfl, Nat.le_of_ble_eq_true rfl, Nat.le_of_ble_eq_true rfl⟩ (hP.sub [] rfl) hK hl rfl rfl (Nat.le_of_ble_eq_true rfl) ⟨Nat.zero_le _, Nat.zero_le _⟩ dX6_answersNow_101 ?_
      refine lv_if_eq (tgt := 129) hx hb dX6_answersNow_104 (by decide) (fun c8 => ?_) (fun c8 => ?_)
      · have hf := if_t hf c8
        exact w_X6_answersNow_c129 hc hK hP (m_X6_answersNow_c84 o_n o_near k64 n) ih v1 v2 v4 v6 v8 v9 hf ls (lv_sub hl [0, 1, 2, 3, 4, 5, 6] rfl)
      · have hf := if_f hf c8
        refine lv_lload_n hx hb dX6_answersNow_107 rfl (lv_at hl 2 rfl) ?_
        refine lv_iload hx hb dX6_answersNow_108 (lv_at hl 6 rfl) ?_
        refine rcSi (As := [.long v2, .int v9]) (rest := []) hc k_X6_85 (c_X6_has l D C v2 v9  _ rfl) ⟨rfl, rfl, Nat.le_of_ble_eq_true rfl, Nat.le_of_ble_eq_true rfl⟩ (hP.sub [] rfl) hK hl rfl rfl (Nat.le_of_ble_eq_true rfl) ⟨Nat.zero_le _, Nat.zero_le _⟩ dX6_answersNow_110 ?_
        refine lv_if_eq (tgt := 129) hx hb dX6_answersNow_113 (by decide) (fun c10 => ?_) (fun c10 => ?_)
        · have hf := if_t hf c10
          exact w_X6_answersNow_c129 hc hK hP (m_X6_answersNow_c84 o_n o_near k64 n) ih v1 v2 v4 v6 v8 v9 hf ls (lv_sub hl [0, 1, 2, 3, 4, 5, 6] rfl)
        · have hf := if_f hf c10
          refine lv_aload_n hx hb dX6_answersNow_116 rfl (lv_at hl 0 rfl) ?_
          refine lv_iload hx hb dX6_answersNow_117 (lv_at hl 5 rfl) ?_
          refine lv_iload hx hb dX6_answersNow_119 (lv_at hl 6 rfl) ?_
          refine lv_lload hx hb dX6_answersNow_121 (lv_at hl 3 rfl) ?_
          obtain ⟨u11, hu11, hf⟩ := bind_some hf
          refine rcVl (As := [.int v8, .int v9, .long v4]) (rest := []) hc k_X6_167 (c_X6_carrier l D C z0 z2 o_n z1 o_all o_made o_own0 o_own1 r_o_kept r_o_isKept r_o_threatOf r_o_threatSet o_threatMany r_o_text o_length r_o_far r_o_back r_o_hole o_holes r_o_isWon r_o_won r_o_lasts r_o_power r_o_told o_tellings o_near v8 v9 v4  _ hu11) ⟨rfl, rfl, Nat.le_of_ble_eq_true rfl, Nat.le_of_ble_eq_true rfl⟩ (hP.sub [0, 2] rfl) hK (q0 := 0) rfl rfl rfl hl rfl rfl (Nat.le_of_ble_eq_true rfl) ⟨Nat.zero_le _, Nat.zero_le _⟩ dX6_answersNow_123 ?_
          refine lv_goto (tgt := 130) hx hb dX6_answersNow_126 (by decide) ?_
          exact w_X6_answersNow_c130 hc hK hP (m_X6_answersNow_c84 o_n o_near k64 n) ih v1 v2 v4 v6 v8 v9 u11 hf ls (lv_sub hl [0, 1, 2, 3, 4, 5, 6] rfl)
def m_X6_answersNow_c64 (o_n : Int32) (o_near : Nat → Int64)  : Nat → Int32 → Int64 → Int64 → Int64 → Int32 → Option (Int64)
  | 0, _, _, _, _, _ => none
  | n + 1, v1, v2, v4, v6, v8 => (if (o_n * o_n) ≤ v8 then some v6 else (m_X6_answersNow_c84 o_n o_near (m_X6_answersNow_c64 o_n o_near  n) FU v1 v2 v4 v6 v8 (v8 + (1 : Int32))))
set_option maxHeartbeats 4000000 in
set_option maxRecDepth 100000 in
theorem w_X6_answersNow_c64 {p : Program} {l : Launch} {e : Env} {s : State} {m : MethodId} {args : Array Value} {below : List Frame} {meth : Method} {c : Code} {D : va_G} {C : Nat → ClassId} {z0 : Nat} {z1 : Nat} {z2 : Nat} {o_n : Int32} {o_all : Int32} {o_made : Int32} {o_own0 : Int64} {o_own1 : Int64} {r_o_kept : Nat} {r_o_isKept : Nat} {r_o_threatOf : Nat} {r_o_threatSet : Nat} {o_threatMany : Int32} {r_o_text : Nat} {o_length : Int32} {r_o_far : Nat} {r_o_back : Nat} {r_o_hole : Nat} {o_holes : Int32} {r_o_isWon : Nat} {r_o_won : Nat} {r_o_lasts : Nat} {r_o_power : Nat} {r_o_told : Nat} {o_tellings : Int32} {o_game : Nat → Int32} {o_near : Nat → Int64} {o : Int64} (hc : Cx p s m args meth c yX6_answersNow cX6_answersNow 12 (some .long)) (hK : va_K D vwCl (TY C) s) (hP : va_P D vwCl [cX6 z0 o_n z1 o_all o_made o_own0 o_own1 z2 r_o_kept r_o_isKept r_o_threatOf r_o_threatSet o_threatMany r_o_text o_length r_o_far r_o_back r_o_hole o_holes r_o_isWon r_o_won r_o_lasts r_o_power r_o_told o_tellings, aI C z1 64 o_game, aJ C z2 49 o_near] s.heap) : ∀ (n : Nat), ∀ (v1 : Int32) (v2 : Int64) (v4 : Int64) (v6 : Int64) (v8 : Int32), m_X6_answersNow_c64 o_n o_near  n v1 v2 v4 v6 v8 = some o → ∀ (ls : Array Slot), lv_has ls 12 [(0, .ref z0), (1, .int v1), (2, .long v2), (4, .long v4), (6, .long v6), (8, .int v8)] → W p l e R_X6_answersNow s m args below meth c s.heap [] 0 0 (MQ below (vp_Sl (fun r => r = o)) args s 0 0 (fun _ => False)) (F0 m 64 ls []) := by
  have hx := hc.1
  have hb := hc.2.1
  have hown := hc.2.2.2.2.1
  have hts := hc.2.2.2.2.2.1
  intro n
  induction n with
  | zero =>
    intro v1 v2 v4 v6 v8 hf
    exact no_some hf
  | succ n ih =>
    intro v1 v2 v4 v6 v8 hf ls hl
    refine lv_iload hx hb dX6_answersNow_64 (lv_at hl 5 rfl) ?_
    refine lv_aload_n hx hb dX6_answersNow_66 rfl (lv_at hl 0 rfl) ?_
    refine va_get (D := D) (ci := 6) (v := .int o_n) (C := RX6) (T := TX6) (N := 24) hx hb hts inX6 hown hK hP 0 rfl rfl 0 (by decide) (hts _ q_654) (fun _ h9 => h9) rfl dX6_answersNow_67 ?_
    refine lv_aload_n hx hb dX6_answersNow_70 rfl (lv_at hl 0 rfl) ?_
    refine va_get (D := D) (ci := 6) (v := .int o_n) (C := RX6) (T := TX6) (N := 24) hx hb hts inX6 hown hK hP 0 rfl rfl 0 (by decide) (hts _ q_654) (fun _ h9 => h9) rfl dX6_answersNow_71 ?_
    refine lv_imul hx hb dX6_answersNow_74 ?_
    refine lv_icmp_ge (tgt := 172) hx hb dX6_answersNow_75 (by decide) (fun c6 => ?_) (fun c6 => ?_)
    · have hf := if_t hf c6
      refine lv_lload hx hb dX6_answersNow_172 (lv_at hl 4 rfl) ?_
      exact rRl hc (Option.some.inj hf) dX6_answersNow_174
    · have hf := if_f hf c6
      refine lv_iload hx hb dX6_answersNow_78 (lv_at hl 5 rfl) ?_
      refine lv_iconst (v := (1 : Int32)) hx hb dX6_answersNow_80 (by decide) ?_
      refine lv_iadd hx hb dX6_answersNow_81 ?_
      refine lv_istore (lv' := [(9, .int (v8 + (1 : Int32))), (0, .ref z0), (1, .int v1), (2, .long v2), (4, .long v4), (6, .long v6), (8, .int v8)]) hx hb dX6_answersNow_82 hl (by decide) rfl (fun ls hl => ?_)
      exact w_X6_answersNow_c84 hc hK hP (m_X6_answersNow_c64 o_n o_near  n) ih FU v1 v2 v4 v6 v8 (v8 + (1 : Int32)) hf ls (lv_sub hl [1, 2, 3, 4, 5, 6, 0] rfl)
def m_X6_answersNow (o_n : Int32) (o_made : Int32) (o_own0 : Int64) (o_own1 : Int64) (o_game : Nat → Int32) (o_near : Nat → Int64) : Option (Int64) := (if o_made = 0 then some (0 : Int64) else (if okI (o_made - (1 : Int32)) 64 = true then (if (o_game (o_made - (1 : Int32)).toNatClampNeg) = (-16 : Int32) then some (0 : Int64) else (if okI (o_made - (1 : Int32)) 64 = true then (jlet ((m_X6_free o_n o_own0 o_own1) ||| (jshl (1 : Int64) (o_game (o_made - (1 : Int32)).toNatClampNeg))) fun x5 => (m_X6_answersNow_c64 o_n o_near FU (o_game (o_made - (1 : Int32)).toNatClampNeg) (m_X6_own o_own0 o_own1 (jirem o_made (2 : Int32))) x5 (0 : Int64) (0 : Int32))) else none)) else none))
set_option maxHeartbeats 4000000 in
set_option maxRecDepth 100000 in
theorem c_X6_answersNow (l : Launch) (D : va_G) (C : Nat → ClassId) (z0 : Nat) (z1 : Nat) (z2 : Nat) (o_n : Int32) (o_all : Int32) (o_made : Int32) (o_own0 : Int64) (o_own1 : Int64) (r_o_kept : Nat) (r_o_isKept : Nat) (r_o_threatOf : Nat) (r_o_threatSet : Nat) (o_threatMany : Int32) (r_o_text : Nat) (o_length : Int32) (r_o_far : Nat) (r_o_back : Nat) (r_o_hole : Nat) (o_holes : Int32) (r_o_isWon : Nat) (r_o_won : Nat) (r_o_lasts : Nat) (r_o_power : Nat) (r_o_told : Nat) (o_tellings : Int32) (o_game : Nat → Int32) (o_near : Nat → Int64) (o : Int64) (hf : m_X6_answersNow o_n o_made o_own0 o_own1 o_game o_near = some o) : Met l yX6_answersNow (wl yX6_answersNow cX6_answersNow 12 (some .long)) R_X6_answersNow (PR [.ref z0] D C [cX6 z0 o_n z1 o_all o_made o_own0 o_own1 z2 r_o_kept r_o_isKept r_o_threatOf r_o_threatSet o_threatMany r_o_text o_length r_o_far r_o_back r_o_hole o_holes r_o_isWon r_o_won r_o_lasts r_o_power r_o_told o_tellings, aI C z1 64 o_game, aJ C z2 49 o_near]) (vp_Sl (fun r => r = o)) 0 0 (fun _ => False) := by
  refine Met_ofC (by decide) ?_
  intro p e s m args below meth c hc hv
  obtain ⟨rfl, hP, hK⟩ := hv
  have hx := hc.1
  have hb := hc.2.1
  have hown := hc.2.2.2.2.1
  have hts := hc.2.2.2.2.2.1
  refine en_F rfl (fun ls hl => ?_)
  have hl : lv_has ls 12 [(0, .ref z0)] := hl
  refine lv_aload_n hx hb dX6_answersNow_0 rfl (lv_at hl 0 rfl) ?_
  refine va_get (D := D) (ci := 6) (v := .int o_made) (C := RX6) (T := TX6) (N := 24) hx hb hts inX6 hown hK hP 0 rfl rfl 3 (by decide) (hts _ q_657) (fun _ h9 => h9) rfl dX6_answersNow_1 ?_
  refine lv_if_eq (tgt := 23) hx hb dX6_answersNow_4 (by decide) (fun c1 => ?_) (fun c1 => ?_)
  · have hf := if_t hf c1
    refine lv_lconst (v := (0 : Int64)) hx hb dX6_answersNow_23 (by decide) ?_
    exact rRl hc (Option.some.inj hf) dX6_answersNow_24
  · have hf := if_f hf c1
    refine lv_aload_n hx hb dX6_answersNow_7 rfl (lv_at hl 0 rfl) ?_
    refine va_get (D := D) (ci := 6) (v := .ref z1) (C := RX6) (T := TX6) (N := 24) hx hb hts inX6 hown hK hP 0 rfl rfl 1 (by decide) (hts _ q_655) (fun _ h9 => h9) rfl dX6_answersNow_8 ?_
    refine lv_aload_n hx hb dX6_answersNow_11 rfl (lv_at hl 0 rfl) ?_
    refine va_get (D := D) (ci := 6) (v := .int o_made) (C := RX6) (T := TX6) (N := 24) hx hb hts inX6 hown hK hP 0 rfl rfl 3 (by decide) (hts _ q_657) (fun _ h9 => h9) rfl dX6_answersNow_12 ?_
    refine lv_iconst (v := (1 : Int32)) hx hb dX6_answersNow_15 (by decide) ?_
    refine lv_isub hx hb dX6_answersNow_16 ?_
    obtain ⟨h2, hf⟩ := ok_t hf
    refine va_iald hx hb hK hP 1 0 rfl rfl (okI_in h2) dX6_answersNow_17 ?_
    refine lv_bipush (v := (-16 : Int32)) hx hb dX6_answersNow_18 (by decide) ?_
    refine lv_icmp_ne (tgt := 25) hx hb dX6_answersNow_20 (by decide) (fun c3 => ?_) (fun c3 => ?_)
    · have hf := if_f hf c3
      refine lv_aload_n hx hb dX6_answersNow_25 rfl (lv_at hl 0 rfl) ?_
      refine va_get (D := D) (ci := 6) (v := .ref z1) (C := RX6) (T := TX6) (N := 24) hx hb hts inX6 hown hK hP 0 rfl rfl 1 (by decide) (hts _ q_655) (fun _ h9 => h9) rfl dX6_answersNow_26 ?_
      refine lv_aload_n hx hb dX6_answersNow_29 rfl (lv_at hl 0 rfl) ?_
      refine va_get (D := D) (ci := 6) (v := .int o_made) (C := RX6) (T := TX6) (N := 24) hx hb hts inX6 hown hK hP 0 rfl rfl 3 (by decide) (hts _ q_657) (fun _ h9 => h9) rfl dX6_answersNow_30 ?_
      refine lv_iconst (v := (1 : Int32)) hx hb dX6_answersNow_33 (by decide) ?_
      refine lv_isub hx hb dX6_answersNow_34 ?_
      obtain ⟨h4, hf⟩ := ok_t hf
      refine va_iald hx hb hK hP 1 0 rfl rfl (okI_in h4) dX6_answersNow_35 ?_
      refine lv_istore_n (lv' := [(1, .int (o_game (o_made - (1 : Int32)).toNatClampNeg)), (0, .ref z0)]) hx hb dX6_answersNow_36 rfl hl (by decide) rfl (fun ls hl => ?_)
      refine lv_aload_n hx hb dX6_answersNow_37 rfl (lv_at hl 1 rfl) ?_
      refine lv_aload_n hx hb dX6_answersNow_38 rfl (lv_at hl 1 rfl) ?_
      refine va_get (D := D) (ci := 6) (v := .int o_made) (C := RX6) (T := TX6) (N := 24) hx hb hts inX6 hown hK hP 0 rfl rfl 3 (by decide) (hts _ q_657) (fun _ h9 => h9) rfl dX6_answersNow_39 ?_
      refine lv_iconst (v := (2 : Int32)) hx hb dX6_answersNow_42 (by decide) ?_
      refine lv_irem hx hb dX6_answersNow_43 (by decide) ?_
      refine rcVl (As := [.int (jirem o_made (2 : Int32))]) (rest := []) hc k_X6_139 (c_X6_own l D C z0 o_n z1 o_all o_made o_own0 o_own1 z2 r_o_kept r_o_isKept r_o_threatOf r_o_threatSet o_threatMany r_o_text o_length r_o_far r_o_back r_o_hole o_holes r_o_isWon r_o_won r_o_lasts r_o_power r_o_told o_tellings (jirem o_made (2 : Int32))  _ rfl) ⟨rfl, rfl, Nat.le_of_ble_eq_true rfl, Nat.le_of_ble_eq_true rfl⟩ (hP.sub [0] rfl) hK (q0 := 0) rfl rfl rfl hl rfl rfl (Nat.le_of_ble_eq_true rfl) ⟨Nat.zero_le _, Nat.zero_le _⟩ dX6_answersNow_44 ?_
      refine lv_lstore_n (lv' := [(2, .long (m_X6_own o_own0 o_own1 (jirem o_made (2 : Int32)))), (1, .int (o_game (o_made - (1 : Int32)).toNatClampNeg)), (0, .ref z0)]) hx hb dX6_answersNow_47 rfl hl (by decide) rfl (fun ls hl => ?_)
      refine lv_aload_n hx hb dX6_answersNow_48 rfl (lv_at hl 2 rfl) ?_
      refine rcVl (As := []) (rest := []) hc k_X6_126 (c_X6_free l D C z0 o_n z1 o_all o_made o_own0 o_own1 z2 r_o_kept r_o_isKept r_o_threatOf r_o_threatSet o_threatMany r_o_text o_length r_o_far r_o_back r_o_hole o_holes r_o_isWon r_o_won r_o_lasts r_o_power r_o_told o_tellings  _ rfl) ⟨rfl, rfl, Nat.le_of_ble_eq_true rfl, Nat.le_of_ble_eq_true rfl⟩ (hP.sub [0] rfl) hK (q0 := 0) rfl rfl rfl hl rfl rfl (Nat.le_of_ble_eq_true rfl) ⟨Nat.zero_le _, Nat.zero_le _⟩ dX6_answersNow_49 ?_
      refine lv_lconst (v := (1 : Int64)) hx hb dX6_answersNow_52 (by decide) ?_
      refine lv_iload_n hx hb dX6_answersNow_53 rfl (lv_at hl 1 rfl) ?_
      refine lv_lshl (v := (jshl (1 : Int64) (o_game (o_made - (1 : Int32)).toNatClampNeg))) hx hb dX6_answersNow_54 rfl ?_
      refine lv_lor hx hb dX6_answersNow_55 ?_
      refine lv_topl (fun x5 ex5 => ?_)
      have hf := jlet_t hf ex5
      refine lv_lstore (lv' := [(4, .long x5), (2, .long (m_X6_own o_own0 o_own1 (jirem o_made (2 : Int32)))), (1, .int (o_game (o_made - (1 : Int32)).toNatClampNeg)), (0, .ref z0)]) hx hb dX6_answersNow_56 hl (by decide) rfl (fun ls hl => ?_)
      refine lv_lconst (v := (0 : Int64)) hx hb dX6_answersNow_58 (by decide) ?_
      refine lv_lstore (lv' := [(6, .long (0 : Int64)), (4, .long x5), (2, .long (m_X6_own o_own0 o_own1 (jirem o_made (2 : Int32)))), (1, .int (o_game (o_made - (1 : Int32)).toNatClampNeg)), (0, .ref z0)]) hx hb dX6_answersNow_59 hl (by decide) rfl (fun ls hl => ?_)
      refine lv_iconst (v := (0 : Int32)) hx hb dX6_answersNow_61 (by decide) ?_
      refine lv_istore (lv' := [(8, .int (0 : Int32)), (6, .long (0 : Int64)), (4, .long x5), (2, .long (m_X6_own o_own0 o_own1 (jirem o_made (2 : Int32)))), (1, .int (o_game (o_made - (1 : Int32)).toNatClampNeg)), (0, .ref z0)]) hx hb dX6_answersNow_62 hl (by decide) rfl (fun ls hl => ?_)
      exact w_X6_answersNow_c64 hc hK hP  FU (o_game (o_made - (1 : Int32)).toNatClampNeg) (m_X6_own o_own0 o_own1 (jirem o_made (2 : Int32))) x5 (0 : Int64) (0 : Int32) hf ls (lv_sub hl [5, 4, 3, 2, 1, 0] rfl)
    · have hf := if_t hf c3
      refine lv_lconst (v := (0 : Int64)) hx hb dX6_answersNow_23 (by decide) ?_
      exact rRl hc (Option.some.inj hf) dX6_answersNow_24
abbrev R_X6_answers : Room := { frames := 3, cells := 0, slots := 0, locals := 81 }
def m_X6_answers (o_n : Int32) (o_made : Int32) (o_own0 : Int64) (o_own1 : Int64) (o_game : Nat → Int32) (o_near : Nat → Int64) : Option (Int64) := ((m_X6_answersNow o_n o_made o_own0 o_own1 o_game o_near).bind fun u1 => some u1)
set_option maxHeartbeats 4000000 in
set_option maxRecDepth 100000 in
theorem c_X6_answers (l : Launch) (D : va_G) (C : Nat → ClassId) (z0 : Nat) (z1 : Nat) (z2 : Nat) (o_n : Int32) (o_all : Int32) (o_made : Int32) (o_own0 : Int64) (o_own1 : Int64) (r_o_kept : Nat) (r_o_isKept : Nat) (r_o_threatOf : Nat) (r_o_threatSet : Nat) (o_threatMany : Int32) (r_o_text : Nat) (o_length : Int32) (r_o_far : Nat) (r_o_back : Nat) (r_o_hole : Nat) (o_holes : Int32) (r_o_isWon : Nat) (r_o_won : Nat) (r_o_lasts : Nat) (r_o_power : Nat) (r_o_told : Nat) (o_tellings : Int32) (o_game : Nat → Int32) (o_near : Nat → Int64) (o : Int64) (hf : m_X6_answers o_n o_made o_own0 o_own1 o_game o_near = some o) : Met l yX6_answers (wl yX6_answers cX6_answers 1 (some .long)) R_X6_answers (PR [.ref z0] D C [cX6 z0 o_n z1 o_all o_made o_own0 o_own1 z2 r_o_kept r_o_isKept r_o_threatOf r_o_threatSet o_threatMany r_o_text o_length r_o_far r_o_back r_o_hole o_holes r_o_isWon r_o_won r_o_lasts r_o_power r_o_told o_tellings, aI C z1 64 o_game, aJ C z2 49 o_near]) (vp_Sl (fun r => r = o)) 0 0 (fun _ => False) := by
  refine Met_ofC (by decide) ?_
  intro p e s m args below meth c hc hv
  obtain ⟨rfl, hP, hK⟩ := hv
  have hx := hc.1
  have hb := hc.2.1
  have hown := hc.2.2.2.2.1
  have hts := hc.2.2.2.2.2.1
  refine en_F rfl (fun ls hl => ?_)
  have hl : lv_has ls 1 [(0, .ref z0)] := hl
  refine lv_aload_n hx hb dX6_answers_0 rfl (lv_at hl 0 rfl) ?_
  obtain ⟨u1, hu1, hf⟩ := bind_some hf
  refine rcVl (As := []) (rest := []) hc k_X6_174 (c_X6_answersNow l D C z0 z1 z2 o_n o_all o_made o_own0 o_own1 r_o_kept r_o_isKept r_o_threatOf r_o_threatSet o_threatMany r_o_text o_length r_o_far r_o_back r_o_hole o_holes r_o_isWon r_o_won r_o_lasts r_o_power r_o_told o_tellings o_game o_near  _ hu1) ⟨rfl, rfl, Nat.le_of_ble_eq_true rfl, Nat.le_of_ble_eq_true rfl⟩ (hP.sub [0, 1, 2] rfl) hK (q0 := 0) rfl rfl rfl hl rfl rfl (Nat.le_of_ble_eq_true rfl) ⟨Nat.zero_le _, Nat.zero_le _⟩ dX6_answers_1 ?_
  exact rRl hc (Option.some.inj hf) dX6_answers_4
abbrev R_X6_findHoles : Room := { frames := 1, cells := 0, slots := 0, locals := 22 }
def m_X6_findHoles_c48  (k7 : Int32 → Int32 → (Nat → Int32) → Option (Int32 × (Nat → Int32))) (v3 : Int32) (o_holes : Int32) (o_hole : Nat → Int32) : Option (Int32 × (Nat → Int32)) := (k7 (v3 + (1 : Int32)) o_holes o_hole)
set_option maxHeartbeats 4000000 in
set_option maxRecDepth 100000 in
theorem w_X6_findHoles_c48 {p : Program} {l : Launch} {e : Env} {s : State} {m : MethodId} {args : Array Value} {below : List Frame} {meth : Method} {c : Code} {D : va_G} {C : Nat → ClassId} {A : Nat → Prop} {a0 : Nat} {a1 : Nat} {a2 : Nat} {a3 : Nat} {a4 : Nat} {a5 : Nat} {a6 : Nat} {a7 : Nat} {a8 : Nat} {a9 : Nat} {a10 : Nat} {a11 : Nat} {a12 : Nat} {a13 : Nat} {a14 : Nat} {a15 : Nat} {o_n : Int32} {o_all : Int32} {o_made : Int32} {o_own0 : Int64} {o_own1 : Int64} {o_threatMany : Int32} {o_length : Int32} {o_tellings : Int32} {o_game : Nat → Int32} {o_near : Nat → Int64} {o_kept : Nat → Int32} {o_isKept : Nat → Int32} {o_threatOf : Nat → Int32} {o_threatSet : Nat → Int64} {o_text : Nat → Int32} {o_far : Nat → Int32} {o_back : Nat → Int32} {o_isWon : Nat → Int32} {o_won : Nat → Int32} {o_lasts : Nat → Int32} {o_power : Nat → Int32} {o_told : Nat → Int32} {p1 : Int64} {o : Int32 × (Nat → Int32)} (hc : Cx p s m args meth c yX6_findHoles cX6_findHoles 4 none) (hK : va_K D vwCl (TY C) s) (hA : ∀ q : Nat, s.heap.size ≤ q → A q) (hO : va_P D vwCl ([] : va_W) s.heap) (hN : ∀ q ∈ ([] : va_W), ¬ A q.1) (k7 : Int32 → Int32 → (Nat → Int32) → Option (Int32 × (Nat → Int32))) (hk7 : ∀ (v3 : Int32) (o_holes : Int32) (o_hole : Nat → Int32), k7 v3 o_holes o_hole = some o → ∀ (H : Heap) (locs : List Loc), va_P D vwCl (wX6 C a0 a1 a2 a3 a4 a5 a6 a7 a8 a9 a10 a11 a12 a13 a14 a15 o_n o_all o_made o_own0 o_own1 o_threatMany o_length o_holes o_tellings o_game o_near o_kept o_isKept o_threatOf o_threatSet o_text o_far o_back o_hole o_isWon o_won o_lasts o_power o_told) H → va_D A (wX6 C a0 a1 a2 a3 a4 a5 a6 a7 a8 a9 a10 a11 a12 a13 a14 a15 o_n o_all o_made o_own0 o_own1 o_threatMany o_length o_holes o_tellings o_game o_near o_kept o_isKept o_threatOf o_threatSet o_text o_far o_back o_hole o_isWon o_won o_lasts o_power o_told) → va_S A s.heap H locs → ∀ (ls : Array Slot), lv_has ls 4 [(0, .ref a0), (1, .long p1), (3, .int v3)] → W p l e R_X6_findHoles s m args below meth c H locs 0 0 (MQ below (QWv D (wX6 C a0 a1 a2 a3 a4 a5 a6 a7 a8 a9 a10 a11 a12 a13 a14 a15 o_n o_all o_made o_own0 o_own1 o_threatMany o_length o.1 o_tellings o_game o_near o_kept o_isKept o_threatOf o_threatSet o_text o_far o_back o.2 o_isWon o_won o_lasts o_power o_told) A) args s 0 0 A) (F0 m 7 ls [])) : ∀ (v3 : Int32) (o_holes : Int32) (o_hole : Nat → Int32), m_X6_findHoles_c48  k7 v3 o_holes o_hole = some o → ∀ (H : Heap) (locs : List Loc), va_P D vwCl (wX6 C a0 a1 a2 a3 a4 a5 a6 a7 a8 a9 a10 a11 a12 a13 a14 a15 o_n o_all o_made o_own0 o_own1 o_threatMany o_length o_holes o_tellings o_game o_near o_kept o_isKept o_threatOf o_threatSet o_text o_far o_back o_hole o_isWon o_won o_lasts o_power o_told) H → va_D A (wX6 C a0 a1 a2 a3 a4 a5 a6 a7 a8 a9 a10 a11 a12 a13 a14 a15 o_n o_all o_made o_own0 o_own1 o_threatMany o_length o_holes o_tellings o_game o_near o_kept o_isKept o_threatOf o_threatSet o_text o_far o_back o_hole o_isWon o_won o_lasts o_power o_told) → va_S A s.heap H locs → ∀ (ls : Array Slot), lv_has ls 4 [(0, .ref a0), (1, .long p1), (3, .int v3)] → W p l e R_X6_findHoles s m args below meth c H locs 0 0 (MQ below (QWv D (wX6 C a0 a1 a2 a3 a4 a5 a6 a7 a8 a9 a10 a11 a12 a13 a14 a15 o_n o_all o_made o_own0 o_own1 o_threatMany o_length o.1 o_tellings o_game o_near o_kept o_isKept o_threatOf o_threatSet o_text o_far o_back o.2 o_isWon o_won o_lasts o_power o_told) A) args s 0 0 A) (F0 m 48 ls []) := by
  have hx := hc.1
  have hb := hc.2.1
  have hown := hc.2.2.2.2.1
  have hts := hc.2.2.2.2.2.1
  intro v3 o_holes o_hole hf H locs hP hD hS ls hl
  refine lv_iinc (v := (v3 + (1 : Int32))) (lv' := [(3, .int (v3 + (1 : Int32))), (0, .ref a0), (1, .long p1)]) hx hb dX6_findHoles_48 hl (k := 2) rfl rfl (by decide) rfl (fun ls hl => ?_)
  refine lv_goto (tgt := 7) hx hb dX6_findHoles_51 (by decide) ?_
  exact hk7 (v3 + (1 : Int32)) o_holes o_hole hf _ _ hP hD hS ls (lv_sub hl [1, 2, 0] rfl)
def m_X6_findHoles_c7 (o_n : Int32) (p1 : Int64)  : Nat → Int32 → Int32 → (Nat → Int32) → Option (Int32 × (Nat → Int32))
  | 0, _, _, _ => none
  | n + 1, v3, o_holes, o_hole => (if (o_n * o_n) ≤ v3 then some (o_holes, o_hole) else (if (m_X6_has p1 v3) = 0 then (m_X6_findHoles_c48 (m_X6_findHoles_c7 o_n p1  n) v3 o_holes o_hole) else (if okI o_holes 49 = true then (m_X6_findHoles_c48 (m_X6_findHoles_c7 o_n p1  n) v3 (o_holes + (1 : Int32)) (upd o_hole o_holes.toNatClampNeg v3)) else none)))
set_option maxHeartbeats 4000000 in
set_option maxRecDepth 100000 in
theorem w_X6_findHoles_c7 {p : Program} {l : Launch} {e : Env} {s : State} {m : MethodId} {args : Array Value} {below : List Frame} {meth : Method} {c : Code} {D : va_G} {C : Nat → ClassId} {A : Nat → Prop} {a0 : Nat} {a1 : Nat} {a2 : Nat} {a3 : Nat} {a4 : Nat} {a5 : Nat} {a6 : Nat} {a7 : Nat} {a8 : Nat} {a9 : Nat} {a10 : Nat} {a11 : Nat} {a12 : Nat} {a13 : Nat} {a14 : Nat} {a15 : Nat} {o_n : Int32} {o_all : Int32} {o_made : Int32} {o_own0 : Int64} {o_own1 : Int64} {o_threatMany : Int32} {o_length : Int32} {o_tellings : Int32} {o_game : Nat → Int32} {o_near : Nat → Int64} {o_kept : Nat → Int32} {o_isKept : Nat → Int32} {o_threatOf : Nat → Int32} {o_threatSet : Nat → Int64} {o_text : Nat → Int32} {o_far : Nat → Int32} {o_back : Nat → Int32} {o_isWon : Nat → Int32} {o_won : Nat → Int32} {o_lasts : Nat → Int32} {o_power : Nat → Int32} {o_told : Nat → Int32} {p1 : Int64} {o : Int32 × (Nat → Int32)} (hc : Cx p s m args meth c yX6_findHoles cX6_findHoles 4 none) (hK : va_K D vwCl (TY C) s) (hA : ∀ q : Nat, s.heap.size ≤ q → A q) (hO : va_P D vwCl ([] : va_W) s.heap) (hN : ∀ q ∈ ([] : va_W), ¬ A q.1) : ∀ (n : Nat), ∀ (v3 : Int32) (o_holes : Int32) (o_hole : Nat → Int32), m_X6_findHoles_c7 o_n p1  n v3 o_holes o_hole = some o → ∀ (H : Heap) (locs : List Loc), va_P D vwCl (wX6 C a0 a1 a2 a3 a4 a5 a6 a7 a8 a9 a10 a11 a12 a13 a14 a15 o_n o_all o_made o_own0 o_own1 o_threatMany o_length o_holes o_tellings o_game o_near o_kept o_isKept o_threatOf o_threatSet o_text o_far o_back o_hole o_isWon o_won o_lasts o_power o_told) H → va_D A (wX6 C a0 a1 a2 a3 a4 a5 a6 a7 a8 a9 a10 a11 a12 a13 a14 a15 o_n o_all o_made o_own0 o_own1 o_threatMany o_length o_holes o_tellings o_game o_near o_kept o_isKept o_threatOf o_threatSet o_text o_far o_back o_hole o_isWon o_won o_lasts o_power o_told) → va_S A s.heap H locs → ∀ (ls : Array Slot), lv_has ls 4 [(0, .ref a0), (1, .long p1), (3, .int v3)] → W p l e R_X6_findHoles s m args below meth c H locs 0 0 (MQ below (QWv D (wX6 C a0 a1 a2 a3 a4 a5 a6 a7 a8 a9 a10 a11 a12 a13 a14 a15 o_n o_all o_made o_own0 o_own1 o_threatMany o_length o.1 o_tellings o_game o_near o_kept o_isKept o_threatOf o_threatSet o_text o_far o_back o.2 o_isWon o_won o_lasts o_power o_told) A) args s 0 0 A) (F0 m 7 ls []) := by
  have hx := hc.1
  have hb := hc.2.1
  have hown := hc.2.2.2.2.1
  have hts := hc.2.2.2.2.2.1
  intro n
  induction n with
  | zero =>
    intro v3 o_holes o_hole hf
    exact no_some hf
  | succ n ih =>
    intro v3 o_holes o_hole hf H locs hP hD hS ls hl
    refine lv_iload_n hx hb dX6_findHoles_7 rfl (lv_at hl 2 rfl) ?_
    refine lv_aload_n hx hb dX6_findHoles_8 rfl (lv_at hl 0 rfl) ?_
    refine va_get (D := D) (ci := 6) (v := .int o_n) (C := RX6) (T := TX6) (N := 24) hx hb hts inX6 hown hK hP 0 rfl rfl 0 (by decide) (hts _ q_654) (fun _ h9 => h9) rfl dX6_findHoles_9 ?_
    refine lv_aload_n hx hb dX6_findHoles_12 rfl (lv_at hl 0 rfl) ?_
    refine va_get (D := D) (ci := 6) (v := .int o_n) (C := RX6) (T := TX6) (N := 24) hx hb hts inX6 hown hK hP 0 rfl rfl 0 (by decide) (hts _ q_654) (fun _ h9 => h9) rfl dX6_findHoles_13 ?_
    refine lv_imul hx hb dX6_findHoles_16 ?_
    refine lv_icmp_ge (tgt := 54) hx hb dX6_findHoles_17 (by decide) (fun c1 => ?_) (fun c1 => ?_)
    · have hf := if_t hf c1
      have hf := Option.some.inj hf
      subst hf
      exact rWv hc hP hD hS dX6_findHoles_54
    · have hf := if_f hf c1
      refine lv_lload_n hx hb dX6_findHoles_20 rfl (lv_at hl 1 rfl) ?_
      refine lv_iload_n hx hb dX6_findHoles_21 rfl (lv_at hl 2 rfl) ?_
      refine rcSi (As := [.long p1, .int v3]) (rest := []) hc k_X6_85 (c_X6_has l D C p1 v3  _ rfl) ⟨rfl, rfl, Nat.le_of_ble_eq_true rfl, Nat.le_of_ble_eq_true rfl⟩ (hP.sub [] rfl) hK hl rfl rfl (Nat.le_of_ble_eq_true rfl) ⟨Nat.zero_le _, Nat.zero_le _⟩ dX6_findHoles_22 ?_
      refine lv_if_eq (tgt := 48) hx hb dX6_findHoles_25 (by decide) (fun c2 => ?_) (fun c2 => ?_)
      · have hf := if_t hf c2
        exact w_X6_findHoles_c48 hc hK hA hO hN (m_X6_findHoles_c7 o_n p1  n) ih v3 o_holes o_hole hf _ _ hP hD hS ls (lv_sub hl [0, 1, 2] rfl)
      · have hf := if_f hf c2
        refine lv_aload_n hx hb dX6_findHoles_28 rfl (lv_at hl 0 rfl) ?_
        refine va_get (D := D) (ci := 6) (v := .ref a10) (C := RX6) (T := TX6) (N := 24) hx hb hts inX6 hown hK hP 0 rfl rfl 16 (by decide) (hts _ q_670) (fun _ h9 => h9) rfl dX6_findHoles_29 ?_
        refine lv_aload_n hx hb dX6_findHoles_32 rfl (lv_at hl 0 rfl) ?_
        refine va_get (D := D) (ci := 6) (v := .int o_holes) (C := RX6) (T := TX6) (N := 24) hx hb hts inX6 hown hK hP 0 rfl rfl 17 (by decide) (hts _ q_671) (fun _ h9 => h9) rfl dX6_findHoles_33 ?_
        refine lv_iload_n hx hb dX6_findHoles_36 rfl (lv_at hl 2 rfl) ?_
        obtain ⟨h3, hf⟩ := ok_t hf
        refine va_iast hx hb hK hP hD hS 10 0 rfl rfl (okI_in h3) dX6_findHoles_37 (fun H locs hP hD hS => ?_)
        have hP : va_P D vwCl (wX6 C a0 a1 a2 a3 a4 a5 a6 a7 a8 a9 a10 a11 a12 a13 a14 a15 o_n o_all o_made o_own0 o_own1 o_threatMany o_length o_holes o_tellings o_game o_near o_kept o_isKept o_threatOf o_threatSet o_text o_far o_back (upd o_hole o_holes.toNatClampNeg v3) o_isWon o_won o_lasts o_power o_told) H := hP
        have hD : va_D A (wX6 C a0 a1 a2 a3 a4 a5 a6 a7 a8 a9 a10 a11 a12 a13 a14 a15 o_n o_all o_made o_own0 o_own1 o_threatMany o_length o_holes o_tellings o_game o_near o_kept o_isKept o_threatOf o_threatSet o_text o_far o_back (upd o_hole o_holes.toNatClampNeg v3) o_isWon o_won o_lasts o_power o_told) := hD
        refine lv_aload_n hx hb dX6_findHoles_38 rfl (lv_at hl 0 rfl) ?_
        refine lv_dup hx hb dX6_findHoles_39 rfl ?_
        refine va_get (D := D) (ci := 6) (v := .int o_holes) (C := RX6) (T := TX6) (N := 24) hx hb hts inX6 hown hK hP 0 rfl rfl 17 (by decide) (hts _ q_671) (fun _ h9 => h9) rfl dX6_findHoles_40 ?_
        refine lv_iconst (v := (1 : Int32)) hx hb dX6_findHoles_43 (by decide) ?_
        refine lv_iadd hx hb dX6_findHoles_44 ?_
        refine va_put (D := D) (ci := 6) (v := .int (o_holes + (1 : Int32))) (ty := .int) (C := RX6) (T := TX6) (N := 24) hx hb hts inX6 tyX6 tyX6_ok nmX6 hown hK hP hD hS 0 rfl rfl 17 (by decide) (hts _ q_671) (fun _ h9 => h9) rfl (by decide +kernel) rfl rfl (Nat.le_of_ble_eq_true rfl) dX6_findHoles_45 (fun H locs hP hD hS => ?_)
        have hP : va_P D vwCl (wX6 C a0 a1 a2 a3 a4 a5 a6 a7 a8 a9 a10 a11 a12 a13 a14 a15 o_n o_all o_made o_own0 o_own1 o_threatMany o_length (o_holes + (1 : Int32)) o_tellings o_game o_near o_kept o_isKept o_threatOf o_threatSet o_text o_far o_back (upd o_hole o_holes.toNatClampNeg v3) o_isWon o_won o_lasts o_power o_told) H := hP
        have hD : va_D A (wX6 C a0 a1 a2 a3 a4 a5 a6 a7 a8 a9 a10 a11 a12 a13 a14 a15 o_n o_all o_made o_own0 o_own1 o_threatMany o_length (o_holes + (1 : Int32)) o_tellings o_game o_near o_kept o_isKept o_threatOf o_threatSet o_text o_far o_back (upd o_hole o_holes.toNatClampNeg v3) o_isWon o_won o_lasts o_power o_told) := hD
        exact w_X6_findHoles_c48 hc hK hA hO hN (m_X6_findHoles_c7 o_n p1  n) ih v3 (o_holes + (1 : Int32)) (upd o_hole o_holes.toNatClampNeg v3) hf _ _ hP hD hS ls (lv_sub hl [0, 1, 2] rfl)
def m_X6_findHoles (o_n : Int32) (o_hole : Nat → Int32) (p1 : Int64) : Option (Int32 × (Nat → Int32)) := (m_X6_findHoles_c7 o_n p1 FU (0 : Int32) (0 : Int32) o_hole)
set_option maxHeartbeats 4000000 in
set_option maxRecDepth 100000 in
theorem c_X6_findHoles (l : Launch) (D : va_G) (C : Nat → ClassId) (sz : Nat) (a0 : Nat) (a1 : Nat) (a2 : Nat) (a3 : Nat) (a4 : Nat) (a5 : Nat) (a6 : Nat) (a7 : Nat) (a8 : Nat) (a9 : Nat) (a10 : Nat) (a11 : Nat) (a12 : Nat) (a13 : Nat) (a14 : Nat) (a15 : Nat) (o_n : Int32) (o_all : Int32) (o_made : Int32) (o_own0 : Int64) (o_own1 : Int64) (o_threatMany : Int32) (o_length : Int32) (o_holes : Int32) (o_tellings : Int32) (o_game : Nat → Int32) (o_near : Nat → Int64) (o_kept : Nat → Int32) (o_isKept : Nat → Int32) (o_threatOf : Nat → Int32) (o_threatSet : Nat → Int64) (o_text : Nat → Int32) (o_far : Nat → Int32) (o_back : Nat → Int32) (o_hole : Nat → Int32) (o_isWon : Nat → Int32) (o_won : Nat → Int32) (o_lasts : Nat → Int32) (o_power : Nat → Int32) (o_told : Nat → Int32) (p1 : Int64) (o : Int32 × (Nat → Int32)) (hf : m_X6_findHoles o_n o_hole p1 = some o) : Met l yX6_findHoles (wl yX6_findHoles cX6_findHoles 4 none) R_X6_findHoles (PW [.ref a0, .long p1] D C sz (wX6 C a0 a1 a2 a3 a4 a5 a6 a7 a8 a9 a10 a11 a12 a13 a14 a15 o_n o_all o_made o_own0 o_own1 o_threatMany o_length o_holes o_tellings o_game o_near o_kept o_isKept o_threatOf o_threatSet o_text o_far o_back o_hole o_isWon o_won o_lasts o_power o_told) ([] : va_W)) (QWv D (wX6 C a0 a1 a2 a3 a4 a5 a6 a7 a8 a9 a10 a11 a12 a13 a14 a15 o_n o_all o_made o_own0 o_own1 o_threatMany o_length o.1 o_tellings o_game o_near o_kept o_isKept o_threatOf o_threatSet o_text o_far o_back o.2 o_isWon o_won o_lasts o_power o_told) (va_A (wX6 C a0 a1 a2 a3 a4 a5 a6 a7 a8 a9 a10 a11 a12 a13 a14 a15 o_n o_all o_made o_own0 o_own1 o_threatMany o_length o_holes o_tellings o_game o_near o_kept o_isKept o_threatOf o_threatSet o_text o_far o_back o_hole o_isWon o_won o_lasts o_power o_told) sz)) 0 0 (va_A (wX6 C a0 a1 a2 a3 a4 a5 a6 a7 a8 a9 a10 a11 a12 a13 a14 a15 o_n o_all o_made o_own0 o_own1 o_threatMany o_length o_holes o_tellings o_game o_near o_kept o_isKept o_threatOf o_threatSet o_text o_far o_back o_hole o_isWon o_won o_lasts o_power o_told) sz) := by
  refine Met_ofC (by decide) ?_
  intro p e s m args below meth c hc hv
  obtain ⟨rfl, hsz, hP, hK, hD0, hO, hN0⟩ := hv
  subst hsz
  have hD := hD0.self (sz := s.heap.size)
  have hN : ∀ q ∈ ([] : va_W), ¬ va_A (wX6 C a0 a1 a2 a3 a4 a5 a6 a7 a8 a9 a10 a11 a12 a13 a14 a15 o_n o_all o_made o_own0 o_own1 o_threatMany o_length o_holes o_tellings o_game o_near o_kept o_isKept o_threatOf o_threatSet o_text o_far o_back o_hole o_isWon o_won o_lasts o_power o_told) s.heap.size q.1 := hN0
  generalize hAe : va_A (wX6 C a0 a1 a2 a3 a4 a5 a6 a7 a8 a9 a10 a11 a12 a13 a14 a15 o_n o_all o_made o_own0 o_own1 o_threatMany o_length o_holes o_tellings o_game o_near o_kept o_isKept o_threatOf o_threatSet o_text o_far o_back o_hole o_isWon o_won o_lasts o_power o_told) s.heap.size = A at hD hN ⊢
  have hA : ∀ q : Nat, s.heap.size ≤ q → A q := fun q h => by rw [← hAe]; exact Or.inr h
  have hS : va_S A s.heap s.heap [] := va_S.rf
  have hx := hc.1
  have hb := hc.2.1
  have hown := hc.2.2.2.2.1
  have hts := hc.2.2.2.2.2.1
  refine en_F rfl (fun ls hl => ?_)
  have hl : lv_has ls 4 [(0, .ref a0), (1, .long p1)] := hl
  refine lv_aload_n hx hb dX6_findHoles_0 rfl (lv_at hl 0 rfl) ?_
  refine lv_iconst (v := (0 : Int32)) hx hb dX6_findHoles_1 (by decide) ?_
  refine va_put (D := D) (ci := 6) (v := .int (0 : Int32)) (ty := .int) (C := RX6) (T := TX6) (N := 24) hx hb hts inX6 tyX6 tyX6_ok nmX6 hown hK hP hD hS 0 rfl rfl 17 (by decide) (hts _ q_671) (fun _ h9 => h9) rfl (by decide +kernel) rfl rfl (Nat.le_of_ble_eq_true rfl) dX6_findHoles_2 (fun H locs hP hD hS => ?_)
  have hP : va_P D vwCl (wX6 C a0 a1 a2 a3 a4 a5 a6 a7 a8 a9 a10 a11 a12 a13 a14 a15 o_n o_all o_made o_own0 o_own1 o_threatMany o_length (0 : Int32) o_tellings o_game o_near o_kept o_isKept o_threatOf o_threatSet o_text o_far o_back o_hole o_isWon o_won o_lasts o_power o_told) H := hP
  have hD : va_D A (wX6 C a0 a1 a2 a3 a4 a5 a6 a7 a8 a9 a10 a11 a12 a13 a14 a15 o_n o_all o_made o_own0 o_own1 o_threatMany o_length (0 : Int32) o_tellings o_game o_near o_kept o_isKept o_threatOf o_threatSet o_text o_far o_back o_hole o_isWon o_won o_lasts o_power o_told) := hD
  refine lv_iconst (v := (0 : Int32)) hx hb dX6_findHoles_5 (by decide) ?_
  refine lv_istore_n (lv' := [(3, .int (0 : Int32)), (0, .ref a0), (1, .long p1)]) hx hb dX6_findHoles_6 rfl hl (by decide) rfl (fun ls hl => ?_)
  exact w_X6_findHoles_c7 hc hK hA hO hN  FU (0 : Int32) (0 : Int32) o_hole hf _ _ hP hD hS ls (lv_sub hl [1, 2, 0] rfl)
abbrev R_X6_fills : Room := { frames := 4, cells := 0, slots := 0, locals := 98 }
def m_X6_fills_c72  (k39 : Int32 → Int64 → Int32 → Int32 → (Nat → Int32) → (Nat → Int32) → Option (Int32 × Int32 × (Nat → Int32) × (Nat → Int32))) (v1 : Int32) (v4 : Int32) (t0 : Int64) (t1 : Int64) (o_holes : Int32) (o_hole : Nat → Int32) (o_isWon : Nat → Int32) : Option (Int32 × Int32 × (Nat → Int32) × (Nat → Int32)) := (k39 v1 (t1 ||| t0) (v4 + (1 : Int32)) o_holes o_hole o_isWon)
set_option maxHeartbeats 4000000 in
set_option maxRecDepth 100000 in
theorem w_X6_fills_c72 {p : Program} {l : Launch} {e : Env} {s : State} {m : MethodId} {args : Array Value} {below : List Frame} {meth : Method} {c : Code} {D : va_G} {C : Nat → ClassId} {A : Nat → Prop} {a0 : Nat} {a1 : Nat} {a2 : Nat} {a3 : Nat} {a4 : Nat} {a5 : Nat} {a6 : Nat} {a7 : Nat} {a8 : Nat} {a9 : Nat} {a10 : Nat} {a11 : Nat} {a12 : Nat} {a13 : Nat} {a14 : Nat} {a15 : Nat} {o_n : Int32} {o_all : Int32} {o_made : Int32} {o_own0 : Int64} {o_own1 : Int64} {o_threatMany : Int32} {o_length : Int32} {o_tellings : Int32} {o_game : Nat → Int32} {o_near : Nat → Int64} {o_kept : Nat → Int32} {o_isKept : Nat → Int32} {o_threatOf : Nat → Int32} {o_threatSet : Nat → Int64} {o_text : Nat → Int32} {o_far : Nat → Int32} {o_back : Nat → Int32} {o_won : Nat → Int32} {o_lasts : Nat → Int32} {o_power : Nat → Int32} {o_told : Nat → Int32} {o : Int32 × Int32 × (Nat → Int32) × (Nat → Int32)} (hc : Cx p s m args meth c yX6_fills cX6_fills 5 (some .boolean)) (hK : va_K D vwCl (TY C) s) (hA : ∀ q : Nat, s.heap.size ≤ q → A q) (hO : va_P D vwCl ([] : va_W) s.heap) (hN : ∀ q ∈ ([] : va_W), ¬ A q.1) (k39 : Int32 → Int64 → Int32 → Int32 → (Nat → Int32) → (Nat → Int32) → Option (Int32 × Int32 × (Nat → Int32) × (Nat → Int32))) (hk39 : ∀ (v1 : Int32) (v2 : Int64) (v4 : Int32) (o_holes : Int32) (o_hole : Nat → Int32) (o_isWon : Nat → Int32), k39 v1 v2 v4 o_holes o_hole o_isWon = some o → ∀ (H : Heap) (locs : List Loc), va_P D vwCl (wX6 C a0 a1 a2 a3 a4 a5 a6 a7 a8 a9 a10 a11 a12 a13 a14 a15 o_n o_all o_made o_own0 o_own1 o_threatMany o_length o_holes o_tellings o_game o_near o_kept o_isKept o_threatOf o_threatSet o_text o_far o_back o_hole o_isWon o_won o_lasts o_power o_told) H → va_D A (wX6 C a0 a1 a2 a3 a4 a5 a6 a7 a8 a9 a10 a11 a12 a13 a14 a15 o_n o_all o_made o_own0 o_own1 o_threatMany o_length o_holes o_tellings o_game o_near o_kept o_isKept o_threatOf o_threatSet o_text o_far o_back o_hole o_isWon o_won o_lasts o_power o_told) → va_S A s.heap H locs → ∀ (ls : Array Slot), lv_has ls 5 [(0, .ref a0), (1, .int v1), (2, .long v2), (4, .int v4)] → W p l e R_X6_fills s m args below meth c H locs 0 0 (MQ below (QWi D o.1 (wX6 C a0 a1 a2 a3 a4 a5 a6 a7 a8 a9 a10 a11 a12 a13 a14 a15 o_n o_all o_made o_own0 o_own1 o_threatMany o_length o.2.1 o_tellings o_game o_near o_kept o_isKept o_threatOf o_threatSet o_text o_far o_back o.2.2.1 o.2.2.2 o_won o_lasts o_power o_told) A) args s 0 0 A) (F0 m 39 ls [])) : ∀ (v1 : Int32) (v4 : Int32) (t0 : Int64) (t1 : Int64) (o_holes : Int32) (o_hole : Nat → Int32) (o_isWon : Nat → Int32), m_X6_fills_c72  k39 v1 v4 t0 t1 o_holes o_hole o_isWon = some o → ∀ (H : Heap) (locs : List Loc), va_P D vwCl (wX6 C a0 a1 a2 a3 a4 a5 a6 a7 a8 a9 a10 a11 a12 a13 a14 a15 o_n o_all o_made o_own0 o_own1 o_threatMany o_length o_holes o_tellings o_game o_near o_kept o_isKept o_threatOf o_threatSet o_text o_far o_back o_hole o_isWon o_won o_lasts o_power o_told) H → va_D A (wX6 C a0 a1 a2 a3 a4 a5 a6 a7 a8 a9 a10 a11 a12 a13 a14 a15 o_n o_all o_made o_own0 o_own1 o_threatMany o_length o_holes o_tellings o_game o_near o_kept o_isKept o_threatOf o_threatSet o_text o_far o_back o_hole o_isWon o_won o_lasts o_power o_told) → va_S A s.heap H locs → ∀ (ls : Array Slot), lv_has ls 5 [(0, .ref a0), (1, .int v1), (4, .int v4)] → W p l e R_X6_fills s m args below meth c H locs 0 0 (MQ below (QWi D o.1 (wX6 C a0 a1 a2 a3 a4 a5 a6 a7 a8 a9 a10 a11 a12 a13 a14 a15 o_n o_all o_made o_own0 o_own1 o_threatMany o_length o.2.1 o_tellings o_game o_near o_kept o_isKept o_threatOf o_threatSet o_text o_far o_back o.2.2.1 o.2.2.2 o_won o_lasts o_power o_told) A) args s 0 0 A) (F0 m 72 ls [.long t0, .long t1]) := by
  have hx := hc.1
  have hb := hc.2.1
  have hown := hc.2.2.2.2.1
  have hts := hc.2.2.2.2.2.1
  intro v1 v4 t0 t1 o_holes o_hole o_isWon hf H locs hP hD hS ls hl
  refine lv_lor hx hb dX6_fills_72 ?_
  refine lv_lstore_n (lv' := [(2, .long (t1 ||| t0)), (0, .ref a0), (1, .int v1), (4, .int v4)]) hx hb dX6_fills_73 rfl hl (by decide) rfl (fun ls hl => ?_)
  refine lv_iinc (v := (v4 + (1 : Int32))) (lv' := [(4, .int (v4 + (1 : Int32))), (2, .long (t1 ||| t0)), (0, .ref a0), (1, .int v1)]) hx hb dX6_fills_74 hl (k := 3) rfl rfl (by decide) rfl (fun ls hl => ?_)
  refine lv_goto (tgt := 39) hx hb dX6_fills_77 (by decide) ?_
  exact hk39 v1 (t1 ||| t0) (v4 + (1 : Int32)) o_holes o_hole o_isWon hf _ _ hP hD hS ls (lv_sub hl [2, 3, 1, 0] rfl)
def m_X6_fills_c39 (o_n : Int32) (o_near : Nat → Int64) (k21 : Int32 → Int32 → (Nat → Int32) → (Nat → Int32) → Option (Int32 × Int32 × (Nat → Int32) × (Nat → Int32))) : Nat → Int32 → Int64 → Int32 → Int32 → (Nat → Int32) → (Nat → Int32) → Option (Int32 × Int32 × (Nat → Int32) × (Nat → Int32))
  | 0, _, _, _, _, _, _ => none
  | n + 1, v1, v2, v4, o_holes, o_hole, o_isWon => (if o_holes ≤ v4 then ((m_X6_wins o_n o_near (0 : Int32) v2).bind fun u5 => (if okI v1 4096 = true then (k21 (v1 + (1 : Int32)) o_holes o_hole (upd o_isWon v1.toNatClampNeg (vp_nar .boolean u5))) else none)) else (if ((v1 >>> (v4 &&& 31)) &&& (1 : Int32)) = (1 : Int32) then (if okI v4 49 = true then (m_X6_fills_c72 (m_X6_fills_c39 o_n o_near k21 n) v1 v4 (jshl (1 : Int64) (o_hole v4.toNatClampNeg)) v2 o_holes o_hole o_isWon) else none) else (m_X6_fills_c72 (m_X6_fills_c39 o_n o_near k21 n) v1 v4 (0 : Int64) v2 o_holes o_hole o_isWon)))
set_option maxHeartbeats 4000000 in
set_option maxRecDepth 100000 in
theorem w_X6_fills_c39 {p : Program} {l : Launch} {e : Env} {s : State} {m : MethodId} {args : Array Value} {below : List Frame} {meth : Method} {c : Code} {D : va_G} {C : Nat → ClassId} {A : Nat → Prop} {a0 : Nat} {a1 : Nat} {a2 : Nat} {a3 : Nat} {a4 : Nat} {a5 : Nat} {a6 : Nat} {a7 : Nat} {a8 : Nat} {a9 : Nat} {a10 : Nat} {a11 : Nat} {a12 : Nat} {a13 : Nat} {a14 : Nat} {a15 : Nat} {o_n : Int32} {o_all : Int32} {o_made : Int32} {o_own0 : Int64} {o_own1 : Int64} {o_threatMany : Int32} {o_length : Int32} {o_tellings : Int32} {o_game : Nat → Int32} {o_near : Nat → Int64} {o_kept : Nat → Int32} {o_isKept : Nat → Int32} {o_threatOf : Nat → Int32} {o_threatSet : Nat → Int64} {o_text : Nat → Int32} {o_far : Nat → Int32} {o_back : Nat → Int32} {o_won : Nat → Int32} {o_lasts : Nat → Int32} {o_power : Nat → Int32} {o_told : Nat → Int32} {o : Int32 × Int32 × (Nat → Int32) × (Nat → Int32)} (hc : Cx p s m args meth c yX6_fills cX6_fills 5 (some .boolean)) (hK : va_K D vwCl (TY C) s) (hA : ∀ q : Nat, s.heap.size ≤ q → A q) (hO : va_P D vwCl ([] : va_W) s.heap) (hN : ∀ q ∈ ([] : va_W), ¬ A q.1) (k21 : Int32 → Int32 → (Nat → Int32) → (Nat → Int32) → Option (Int32 × Int32 × (Nat → Int32) × (Nat → Int32))) (hk21 : ∀ (v1 : Int32) (o_holes : Int32) (o_hole : Nat → Int32) (o_isWon : Nat → Int32), k21 v1 o_holes o_hole o_isWon = some o → ∀ (H : Heap) (locs : List Loc), va_P D vwCl (wX6 C a0 a1 a2 a3 a4 a5 a6 a7 a8 a9 a10 a11 a12 a13 a14 a15 o_n o_all o_made o_own0 o_own1 o_threatMany o_length o_holes o_tellings o_game o_near o_kept o_isKept o_threatOf o_threatSet o_text o_far o_back o_hole o_isWon o_won o_lasts o_power o_told) H → va_D A (wX6 C a0 a1 a2 a3 a4 a5 a6 a7 a8 a9 a10 a11 a12 a13 a14 a15 o_n o_all o_made o_own0 o_own1 o_threatMany o_length o_holes o_tellings o_game o_near o_kept o_isKept o_threatOf o_threatSet o_text o_far o_back o_hole o_isWon o_won o_lasts o_power o_told) → va_S A s.heap H locs → ∀ (ls : Array Slot), lv_has ls 5 [(0, .ref a0), (1, .int v1)] → W p l e R_X6_fills s m args below meth c H locs 0 0 (MQ below (QWi D o.1 (wX6 C a0 a1 a2 a3 a4 a5 a6 a7 a8 a9 a10 a11 a12 a13 a14 a15 o_n o_all o_made o_own0 o_own1 o_threatMany o_length o.2.1 o_tellings o_game o_near o_kept o_isKept o_threatOf o_threatSet o_text o_far o_back o.2.2.1 o.2.2.2 o_won o_lasts o_power o_told) A) args s 0 0 A) (F0 m 21 ls [])) : ∀ (n : Nat), ∀ (v1 : Int32) (v2 : Int64) (v4 : Int32) (o_holes : Int32) (o_hole : Nat → Int32) (o_isWon : Nat → Int32), m_X6_fills_c39 o_n o_near k21 n v1 v2 v4 o_holes o_hole o_isWon = some o → ∀ (H : Heap) (locs : List Loc), va_P D vwCl (wX6 C a0 a1 a2 a3 a4 a5 a6 a7 a8 a9 a10 a11 a12 a13 a14 a15 o_n o_all o_made o_own0 o_own1 o_threatMany o_length o_holes o_tellings o_game o_near o_kept o_isKept o_threatOf o_threatSet o_text o_far o_back o_hole o_isWon o_won o_lasts o_power o_told) H → va_D A (wX6 C a0 a1 a2 a3 a4 a5 a6 a7 a8 a9 a10 a11 a12 a13 a14 a15 o_n o_all o_made o_own0 o_own1 o_threatMany o_length o_holes o_tellings o_game o_near o_kept o_isKept o_threatOf o_threatSet o_text o_far o_back o_hole o_isWon o_won o_lasts o_power o_told) → va_S A s.heap H locs → ∀ (ls : Array Slot), lv_has ls 5 [(0, .ref a0), (1, .int v1), (2, .long v2), (4, .int v4)] → W p l e R_X6_fills s m args below meth c H locs 0 0 (MQ below (QWi D o.1 (wX6 C a0 a1 a2 a3 a4 a5 a6 a7 a8 a9 a10 a11 a12 a13 a14 a15 o_n o_all o_made o_own0 o_own1 o_threatMany o_length o.2.1 o_tellings o_game o_near o_kept o_isKept o_threatOf o_threatSet o_text o_far o_back o.2.2.1 o.2.2.2 o_won o_lasts o_power o_told) A) args s 0 0 A) (F0 m 39 ls []) := by
  have hx := hc.1
  have hb := hc.2.1
  have hown := hc.2.2.2.2.1
  have hts := hc.2.2.2.2.2.1
  intro n
  induction n with
  | zero =>
    intro v1 v2 v4 o_holes o_hole o_isWon hf
    exact no_some hf
  | succ n ih =>
    intro v1 v2 v4 o_holes o_hole o_isWon hf H locs hP hD hS ls hl
    refine lv_iload hx hb dX6_fills_39 (lv_at hl 3 rfl) ?_
    refine lv_aload_n hx hb dX6_fills_41 rfl (lv_at hl 0 rfl) ?_
    refine va_get (D := D) (ci := 6) (v := .int o_holes) (C := RX6) (T := TX6) (N := 24) hx hb hts inX6 hown hK hP 0 rfl rfl 17 (by decide) (hts _ q_671) (fun _ h9 => h9) rfl dX6_fills_42 ?_
    refine lv_icmp_ge (tgt := 80) hx hb dX6_fills_45 (by decide) (fun c4 => ?_) (fun c4 => ?_)
    · have hf := if_t hf c4
      refine lv_aload_n hx hb dX6_fills_80 rfl (lv_at hl 0 rfl) ?_
      refine va_get (D := D) (ci := 6) (v := .ref a11) (C := RX6) (T := TX6) (N := 24) hx hb hts inX6 hown hK hP 0 rfl rfl 18 (by decide) (hts _ q_672) (fun _ h9 => h9) rfl dX6_fills_81 ?_
      refine lv_iload_n hx hb dX6_fills_84 rfl (lv_at hl 1 rfl) ?_
      refine lv_aload_n hx hb dX6_fills_85 rfl (lv_at hl 0 rfl) ?_
      refine lv_iconst (v := (0 : Int32)) hx hb dX6_fills_86 (by decide) ?_
      refine lv_lload_n hx hb dX6_fills_87 rfl (lv_at hl 2 rfl) ?_
      obtain ⟨u5, hu5, hf⟩ := bind_some hf
      refine rcVi (As := [.int (0 : Int32), .long v2]) (rest := [.int v1, .ref a11]) hc k_X6_101 (c_X6_wins l D C a0 a2 o_n a1 o_all o_made o_own0 o_own1 a3 a4 a5 a6 o_threatMany a7 o_length a8 a9 a10 o_holes a11 a12 a13 a14 a15 o_tellings o_near (0 : Int32) v2  _ hu5) ⟨rfl, rfl, Nat.le_of_ble_eq_true rfl, Nat.le_of_ble_eq_true rfl⟩ (hP.sub [0, 2] rfl) hK (q0 := 0) rfl rfl rfl hl rfl rfl (Nat.le_of_ble_eq_true rfl) ⟨Nat.zero_le _, Nat.zero_le _⟩ dX6_fills_88 ?_
      obtain ⟨h6, hf⟩ := ok_t hf
      refine va_zast hx hb hK hP hD hS 11 3 rfl rfl (okI_in h6) dX6_fills_91 (fun H locs hP hD hS => ?_)
      have hP : va_P D vwCl (wX6 C a0 a1 a2 a3 a4 a5 a6 a7 a8 a9 a10 a11 a12 a13 a14 a15 o_n o_all o_made o_own0 o_own1 o_threatMany o_length o_holes o_tellings o_game o_near o_kept o_isKept o_threatOf o_threatSet o_text o_far o_back o_hole (upd o_isWon v1.toNatClampNeg (vp_nar .boolean u5)) o_won o_lasts o_power o_told) H := hP
      have hD : va_D A (wX6 C a0 a1 a2 a3 a4 a5 a6 a7 a8 a9 a10 a11 a12 a13 a14 a15 o_n o_all o_made o_own0 o_own1 o_threatMany o_length o_holes o_tellings o_game o_near o_kept o_isKept o_threatOf o_threatSet o_text o_far o_back o_hole (upd o_isWon v1.toNatClampNeg (vp_nar .boolean u5)) o_won o_lasts o_power o_told) := hD
      refine lv_iinc (v := (v1 + (1 : Int32))) (lv' := [(1, .int (v1 + (1 : Int32))), (0, .ref a0), (2, .long v2), (4, .int v4)]) hx hb dX6_fills_92 hl (k := 1) rfl rfl (by decide) rfl (fun ls hl => ?_)
      refine lv_goto (tgt := 21) hx hb dX6_fills_95 (by decide) ?_
      exact hk21 (v1 + (1 : Int32)) o_holes o_hole (upd o_isWon v1.toNatClampNeg (vp_nar .boolean u5)) hf _ _ hP hD hS ls (lv_sub hl [1, 0] rfl)
    · have hf := if_f hf c4
      refine lv_lload_n hx hb dX6_fills_48 rfl (lv_at hl 2 rfl) ?_
      refine lv_iload_n hx hb dX6_fills_49 rfl (lv_at hl 1 rfl) ?_
      refine lv_iload hx hb dX6_fills_50 (lv_at hl 3 rfl) ?_
      refine lv_ishr hx hb dX6_fills_52 ?_
      refine lv_iconst (v := (1 : Int32)) hx hb dX6_fills_53 (by decide) ?_
      refine lv_iand hx hb dX6_fills_54 ?_
      refine lv_iconst (v := (1 : Int32)) hx hb dX6_fills_55 (by decide) ?_
      refine lv_icmp_ne (tgt := 71) hx hb dX6_fills_56 (by decide) (fun c7 => ?_) (fun c7 => ?_)
      · have hf := if_f hf c7
        refine lv_lconst (v := (0 : Int64)) hx hb dX6_fills_71 (by decide) ?_
        exact w_X6_fills_c72 hc hK hA hO hN (m_X6_fills_c39 o_n o_near k21 n) ih v1 v4 (0 : Int64) v2 o_holes o_hole o_isWon hf _ _ hP hD hS ls (lv_sub hl [0, 1, 3] rfl)
      · have hf := if_t hf c7
        refine lv_lconst (v := (1 : Int64)) hx hb dX6_fills_59 (by decide) ?_
        refine lv_aload_n hx hb dX6_fills_60 rfl (lv_at hl 0 rfl) ?_
        refine va_get (D := D) (ci := 6) (v := .ref a10) (C := RX6) (T := TX6) (N := 24) hx hb hts inX6 hown hK hP 0 rfl rfl 16 (by decide) (hts _ q_670) (fun _ h9 => h9) rfl dX6_fills_61 ?_
        refine lv_iload hx hb dX6_fills_64 (lv_at hl 3 rfl) ?_
        obtain ⟨h8, hf⟩ := ok_t hf
        refine va_iald hx hb hK hP 10 0 rfl rfl (okI_in h8) dX6_fills_66 ?_
        refine lv_lshl (v := (jshl (1 : Int64) (o_hole v4.toNatClampNeg))) hx hb dX6_fills_67 rfl ?_
        refine lv_goto (tgt := 72) hx hb dX6_fills_68 (by decide) ?_
        exact w_X6_fills_c72 hc hK hA hO hN (m_X6_fills_c39 o_n o_near k21 n) ih v1 v4 (jshl (1 : Int64) (o_hole v4.toNatClampNeg)) v2 o_holes o_hole o_isWon hf _ _ hP hD hS ls (lv_sub hl [0, 1, 3] rfl)
def m_X6_fills_c21 (o_n : Int32) (o_own0 : Int64) (o_near : Nat → Int64)  : Nat → Int32 → Int32 → (Nat → Int32) → (Nat → Int32) → Option (Int32 × Int32 × (Nat → Int32) × (Nat → Int32))
  | 0, _, _, _, _ => none
  | n + 1, v1, o_holes, o_hole, o_isWon => (if ((1 : Int32) <<< (o_holes &&& 31)) ≤ v1 then some ((1 : Int32), o_holes, o_hole, o_isWon) else (m_X6_fills_c39 o_n o_near (m_X6_fills_c21 o_n o_own0 o_near  n) FU v1 o_own0 (0 : Int32) o_holes o_hole o_isWon))
set_option maxHeartbeats 4000000 in
set_option maxRecDepth 100000 in
theorem w_X6_fills_c21 {p : Program} {l : Launch} {e : Env} {s : State} {m : MethodId} {args : Array Value} {below : List Frame} {meth : Method} {c : Code} {D : va_G} {C : Nat → ClassId} {A : Nat → Prop} {a0 : Nat} {a1 : Nat} {a2 : Nat} {a3 : Nat} {a4 : Nat} {a5 : Nat} {a6 : Nat} {a7 : Nat} {a8 : Nat} {a9 : Nat} {a10 : Nat} {a11 : Nat} {a12 : Nat} {a13 : Nat} {a14 : Nat} {a15 : Nat} {o_n : Int32} {o_all : Int32} {o_made : Int32} {o_own0 : Int64} {o_own1 : Int64} {o_threatMany : Int32} {o_length : Int32} {o_tellings : Int32} {o_game : Nat → Int32} {o_near : Nat → Int64} {o_kept : Nat → Int32} {o_isKept : Nat → Int32} {o_threatOf : Nat → Int32} {o_threatSet : Nat → Int64} {o_text : Nat → Int32} {o_far : Nat → Int32} {o_back : Nat → Int32} {o_won : Nat → Int32} {o_lasts : Nat → Int32} {o_power : Nat → Int32} {o_told : Nat → Int32} {o : Int32 × Int32 × (Nat → Int32) × (Nat → Int32)} (hc : Cx p s m args meth c yX6_fills cX6_fills 5 (some .boolean)) (hK : va_K D vwCl (TY C) s) (hA : ∀ q : Nat, s.heap.size ≤ q → A q) (hO : va_P D vwCl ([] : va_W) s.heap) (hN : ∀ q ∈ ([] : va_W), ¬ A q.1) : ∀ (n : Nat), ∀ (v1 : Int32) (o_holes : Int32) (o_hole : Nat → Int32) (o_isWon : Nat → Int32), m_X6_fills_c21 o_n o_own0 o_near  n v1 o_holes o_hole o_isWon = some o → ∀ (H : Heap) (locs : List Loc), va_P D vwCl (wX6 C a0 a1 a2 a3 a4 a5 a6 a7 a8 a9 a10 a11 a12 a13 a14 a15 o_n o_all o_made o_own0 o_own1 o_threatMany o_length o_holes o_tellings o_game o_near o_kept o_isKept o_threatOf o_threatSet o_text o_far o_back o_hole o_isWon o_won o_lasts o_power o_told) H → va_D A (wX6 C a0 a1 a2 a3 a4 a5 a6 a7 a8 a9 a10 a11 a12 a13 a14 a15 o_n o_all o_made o_own0 o_own1 o_threatMany o_length o_holes o_tellings o_game o_near o_kept o_isKept o_threatOf o_threatSet o_text o_far o_back o_hole o_isWon o_won o_lasts o_power o_told) → va_S A s.heap H locs → ∀ (ls : Array Slot), lv_has ls 5 [(0, .ref a0), (1, .int v1)] → W p l e R_X6_fills s m args below meth c H locs 0 0 (MQ below (QWi D o.1 (wX6 C a0 a1 a2 a3 a4 a5 a6 a7 a8 a9 a10 a11 a12 a13 a14 a15 o_n o_all o_made o_own0 o_own1 o_threatMany o_length o.2.1 o_tellings o_game o_near o_kept o_isKept o_threatOf o_threatSet o_text o_far o_back o.2.2.1 o.2.2.2 o_won o_lasts o_power o_told) A) args s 0 0 A) (F0 m 21 ls []) := by
  have hx := hc.1
  have hb := hc.2.1
  have hown := hc.2.2.2.2.1
  have hts := hc.2.2.2.2.2.1
  intro n
  induction n with
  | zero =>
    intro v1 o_holes o_hole o_isWon hf
    exact no_some hf
  | succ n ih =>
    intro v1 o_holes o_hole o_isWon hf H locs hP hD hS ls hl
    refine lv_iload_n hx hb dX6_fills_21 rfl (lv_at hl 1 rfl) ?_
    refine lv_iconst (v := (1 : Int32)) hx hb dX6_fills_22 (by decide) ?_
    refine lv_aload_n hx hb dX6_fills_23 rfl (lv_at hl 0 rfl) ?_
    refine va_get (D := D) (ci := 6) (v := .int o_holes) (C := RX6) (T := TX6) (N := 24) hx hb hts inX6 hown hK hP 0 rfl rfl 17 (by decide) (hts _ q_671) (fun _ h9 => h9) rfl dX6_fills_24 ?_
    refine lv_ishl hx hb dX6_fills_27 ?_
    refine lv_icmp_ge (tgt := 98) hx hb dX6_fills_28 (by decide) (fun c3 => ?_) (fun c3 => ?_)
    · have hf := if_t hf c3
      refine lv_iconst (v := (1 : Int32)) hx hb dX6_fills_98 (by decide) ?_
      have hf := Option.some.inj hf
      subst hf
      exact rWz hc rfl rfl hP hD hS dX6_fills_99
    · have hf := if_f hf c3
      refine lv_aload_n hx hb dX6_fills_31 rfl (lv_at hl 0 rfl) ?_
      refine va_get (D := D) (ci := 6) (v := .long o_own0) (C := RX6) (T := TX6) (N := 24) hx hb hts inX6 hown hK hP 0 rfl rfl 4 (by decide) (hts _ q_658) (fun _ h9 => h9) rfl dX6_fills_32 ?_
      refine lv_lstore_n (lv' := [(2, .long o_own0), (0, .ref a0), (1, .int v1)]) hx hb dX6_fills_35 rfl hl (by decide) rfl (fun ls hl => ?_)
      refine lv_iconst (v := (0 : Int32)) hx hb dX6_fills_36 (by decide) ?_
      refine lv_istore (lv' := [(4, .int (0 : Int32)), (2, .long o_own0), (0, .ref a0), (1, .int v1)]) hx hb dX6_fills_37 hl (by decide) rfl (fun ls hl => ?_)
      exact w_X6_fills_c39 hc hK hA hO hN (m_X6_fills_c21 o_n o_own0 o_near  n) ih FU v1 o_own0 (0 : Int32) o_holes o_hole o_isWon hf _ _ hP hD hS ls (lv_sub hl [2, 3, 1, 0] rfl)
def m_X6_fills (o_n : Int32) (o_own0 : Int64) (o_own1 : Int64) (o_near : Nat → Int64) (o_hole : Nat → Int32) (o_isWon : Nat → Int32) : Option (Int32 × Int32 × (Nat → Int32) × (Nat → Int32)) := ((m_X6_findHoles o_n o_hole (m_X6_free o_n o_own0 o_own1)).bind fun u1 => (if u1.1 ≤ (12 : Int32) then (m_X6_fills_c21 o_n o_own0 o_near FU (0 : Int32) u1.1 u1.2 o_isWon) else some ((0 : Int32), u1.1, u1.2, o_isWon)))
set_option maxHeartbeats 4000000 in
set_option maxRecDepth 100000 in
theorem c_X6_fills (l : Launch) (D : va_G) (C : Nat → ClassId) (sz : Nat) (a0 : Nat) (a1 : Nat) (a2 : Nat) (a3 : Nat) (a4 : Nat) (a5 : Nat) (a6 : Nat) (a7 : Nat) (a8 : Nat) (a9 : Nat) (a10 : Nat) (a11 : Nat) (a12 : Nat) (a13 : Nat) (a14 : Nat) (a15 : Nat) (o_n : Int32) (o_all : Int32) (o_made : Int32) (o_own0 : Int64) (o_own1 : Int64) (o_threatMany : Int32) (o_length : Int32) (o_holes : Int32) (o_tellings : Int32) (o_game : Nat → Int32) (o_near : Nat → Int64) (o_kept : Nat → Int32) (o_isKept : Nat → Int32) (o_threatOf : Nat → Int32) (o_threatSet : Nat → Int64) (o_text : Nat → Int32) (o_far : Nat → Int32) (o_back : Nat → Int32) (o_hole : Nat → Int32) (o_isWon : Nat → Int32) (o_won : Nat → Int32) (o_lasts : Nat → Int32) (o_power : Nat → Int32) (o_told : Nat → Int32) (o : Int32 × Int32 × (Nat → Int32) × (Nat → Int32)) (hf : m_X6_fills o_n o_own0 o_own1 o_near o_hole o_isWon = some o) : Met l yX6_fills (wl yX6_fills cX6_fills 5 (some .boolean)) R_X6_fills (PW [.ref a0] D C sz (wX6 C a0 a1 a2 a3 a4 a5 a6 a7 a8 a9 a10 a11 a12 a13 a14 a15 o_n o_all o_made o_own0 o_own1 o_threatMany o_length o_holes o_tellings o_game o_near o_kept o_isKept o_threatOf o_threatSet o_text o_far o_back o_hole o_isWon o_won o_lasts o_power o_told) ([] : va_W)) (QWi D o.1 (wX6 C a0 a1 a2 a3 a4 a5 a6 a7 a8 a9 a10 a11 a12 a13 a14 a15 o_n o_all o_made o_own0 o_own1 o_threatMany o_length o.2.1 o_tellings o_game o_near o_kept o_isKept o_threatOf o_threatSet o_text o_far o_back o.2.2.1 o.2.2.2 o_won o_lasts o_power o_told) (va_A (wX6 C a0 a1 a2 a3 a4 a5 a6 a7 a8 a9 a10 a11 a12 a13 a14 a15 o_n o_all o_made o_own0 o_own1 o_threatMany o_length o_holes o_tellings o_game o_near o_kept o_isKept o_threatOf o_threatSet o_text o_far o_back o_hole o_isWon o_won o_lasts o_power o_told) sz)) 0 0 (va_A (wX6 C a0 a1 a2 a3 a4 a5 a6 a7 a8 a9 a10 a11 a12 a13 a14 a15 o_n o_all o_made o_own0 o_own1 o_threatMany o_length o_holes o_tellings o_game o_near o_kept o_isKept o_threatOf o_threatSet o_text o_far o_back o_hole o_isWon o_won o_lasts o_power o_told) sz) := by
  refine Met_ofC (by decide) ?_
  intro p e s m args below meth c hc hv
  obtain ⟨rfl, hsz, hP, hK, hD0, hO, hN0⟩ := hv
  subst hsz
  have hD := hD0.self (sz := s.heap.size)
  have hN : ∀ q ∈ ([] : va_W), ¬ va_A (wX6 C a0 a1 a2 a3 a4 a5 a6 a7 a8 a9 a10 a11 a12 a13 a14 a15 o_n o_all o_made o_own0 o_own1 o_threatMany o_length o_holes o_tellings o_game o_near o_kept o_isKept o_threatOf o_threatSet o_text o_far o_back o_hole o_isWon o_won o_lasts o_power o_told) s.heap.size q.1 := hN0
  generalize hAe : va_A (wX6 C a0 a1 a2 a3 a4 a5 a6 a7 a8 a9 a10 a11 a12 a13 a14 a15 o_n o_all o_made o_own0 o_own1 o_threatMany o_length o_holes o_tellings o_game o_near o_kept o_isKept o_threatOf o_threatSet o_text o_far o_back o_hole o_isWon o_won o_lasts o_power o_told) s.heap.size = A at hD hN ⊢
  have hA : ∀ q : Nat, s.heap.size ≤ q → A q := fun q h => by rw [← hAe]; exact Or.inr h
  have hS : va_S A s.heap s.heap [] := va_S.rf
  have hx := hc.1
  have hb := hc.2.1
  have hown := hc.2.2.2.2.1
  have hts := hc.2.2.2.2.2.1
  refine en_F rfl (fun ls hl => ?_)
  have hl : lv_has ls 5 [(0, .ref a0)] := hl
  refine lv_aload_n hx hb dX6_fills_0 rfl (lv_at hl 0 rfl) ?_
  refine lv_aload_n hx hb dX6_fills_1 rfl (lv_at hl 0 rfl) ?_
  refine rcVl (As := []) (rest := [.ref a0]) hc k_X6_126 (c_X6_free l D C a0 o_n a1 o_all o_made o_own0 o_own1 a2 a3 a4 a5 a6 o_threatMany a7 o_length a8 a9 a10 o_holes a11 a12 a13 a14 a15 o_tellings  _ rfl) ⟨rfl, rfl, Nat.le_of_ble_eq_true rfl, Nat.le_of_ble_eq_true rfl⟩ (hP.sub [0] rfl) hK (q0 := 0) rfl rfl rfl hl rfl rfl (Nat.le_of_ble_eq_true rfl) ⟨Nat.zero_le _, Nat.zero_le _⟩ dX6_fills_2 ?_
  obtain ⟨u1, hu1, hf⟩ := bind_some hf
  refine wcVv (A := A) (wc := wX6 C a0 a1 a2 a3 a4 a5 a6 a7 a8 a9 a10 a11 a12 a13 a14 a15 o_n o_all o_made o_own0 o_own1 o_threatMany o_length o_holes o_tellings o_game o_near o_kept o_isKept o_threatOf o_threatSet o_text o_far o_back o_hole o_isWon o_won o_lasts o_power o_told) (w1 := wX6 C a0 a1 a2 a3 a4 a5 a6 a7 a8 a9 a10 a11 a12 a13 a14 a15 o_n o_all o_made o_own0 o_own1 o_threatMany o_length u1.1 o_tellings o_game o_near o_kept o_isKept o_threatOf o_threatSet o_text o_far o_back u1.2 o_isWon o_won o_lasts o_power o_told) (rc := []) (As := [.long (m_X6_free o_n o_own0 o_own1)]) (rest := []) hc k_X6_180 (c_X6_findHoles l D C _ a0 a1 a2 a3 a4 a5 a6 a7 a8 a9 a10 a11 a12 a13 a14 a15 o_n o_all o_made o_own0 o_own1 o_threatMany o_length o_holes o_tellings o_game o_near o_kept o_isKept o_threatOf o_threatSet o_text o_far o_back o_hole o_isWon o_won o_lasts o_power o_told (m_X6_free o_n o_own0 o_own1)  _ hu1) ⟨rfl, rfl, Nat.le_of_ble_eq_true rfl, Nat.le_of_ble_eq_true rfl⟩ hP hD hS hA hK [0, 1, 2, 3, 4, 5, 6, 7, 8, 9, 10, 11, 12, 13, 14, 15] [] rfl rfl rfl rfl (by decide) (hP.sub [] rfl) Ap_nil (q0 := 0) rfl rfl rfl hl rfl rfl (Nat.le_of_ble_eq_true rfl) ⟨Nat.zero_le _, Nat.zero_le _⟩ dX6_fills_5 (fun H locs hP hD hS => ?_)
  have hP : va_P D vwCl (wX6 C a0 a1 a2 a3 a4 a5 a6 a7 a8 a9 a10 a11 a12 a13 a14 a15 o_n o_all o_made o_own0 o_own1 o_threatMany o_length u1.1 o_tellings o_game o_near o_kept o_isKept o_threatOf o_threatSet o_text o_far o_back u1.2 o_isWon o_won o_lasts o_power o_told) H := hP.sub [0, 1, 2, 3, 4, 5, 6, 7, 8, 9, 10, 11, 12, 13, 14, 15] rfl
  have hD : va_D A (wX6 C a0 a1 a2 a3 a4 a5 a6 a7 a8 a9 a10 a11 a12 a13 a14 a15 o_n o_all o_made o_own0 o_own1 o_threatMany o_length u1.1 o_tellings o_game o_near o_kept o_isKept o_threatOf o_threatSet o_text o_far o_back u1.2 o_isWon o_won o_lasts o_power o_told) := hD.sub [0, 1, 2, 3, 4, 5, 6, 7, 8, 9, 10, 11, 12, 13, 14, 15] rfl rfl
  refine lv_aload_n hx hb dX6_fills_8 rfl (lv_at hl 0 rfl) ?_
  refine va_get (D := D) (ci := 6) (v := .int u1.1) (C := RX6) (T := TX6) (N := 24) hx hb hts inX6 hown hK hP 0 rfl rfl 17 (by decide) (hts _ q_671) (fun _ h9 => h9) rfl dX6_fills_9 ?_
  refine lv_bipush (v := (12 : Int32)) hx hb dX6_fills_12 (by decide) ?_
  refine lv_icmp_le (tgt := 19) hx hb dX6_fills_14 (by decide) (fun c2 => ?_) (fun c2 => ?_)
  · have hf := if_t hf c2
    refine lv_iconst (v := (0 : Int32)) hx hb dX6_fills_19 (by decide) ?_
    refine lv_istore_n (lv' := [(1, .int (0 : Int32)), (0, .ref a0)]) hx hb dX6_fills_20 rfl hl (by decide) rfl (fun ls hl => ?_)
    exact w_X6_fills_c21 hc hK hA hO hN  FU (0 : Int32) u1.1 u1.2 o_isWon hf _ _ hP hD hS ls (lv_sub hl [1, 0] rfl)
  · have hf := if_f hf c2
    refine lv_iconst (v := (0 : Int32)) hx hb dX6_fills_17 (by decide) ?_
    have hf := Option.some.inj hf
    subst hf
    exact rWz hc rfl rfl hP hD hS dX6_fills_18
abbrev R_X6_fillings : Room := { frames := 5, cells := 0, slots := 0, locals := 122 }
def m_X6_fillings_c58  (k24 : Int32 → Int32 → Int32 → (Nat → Int32) → (Nat → Int32) → Option (Int32 × Int32 × (Nat → Int32) × (Nat → Int32))) (v3 : Int32) (t0 : Int32) (t1 : Int32) (o_holes : Int32) (o_hole : Nat → Int32) (o_isWon : Nat → Int32) : Option (Int32 × Int32 × (Nat → Int32) × (Nat → Int32)) := (k24 (t1 + t0) (v3 + (1 : Int32)) o_holes o_hole o_isWon)
set_option maxHeartbeats 4000000 in
set_option maxRecDepth 100000 in
theorem w_X6_fillings_c58 {p : Program} {l : Launch} {e : Env} {s : State} {m : MethodId} {args : Array Value} {below : List Frame} {meth : Method} {c : Code} {D : va_G} {C : Nat → ClassId} {A : Nat → Prop} {a0 : Nat} {a1 : Nat} {a2 : Nat} {a3 : Nat} {a4 : Nat} {a5 : Nat} {a6 : Nat} {a7 : Nat} {a8 : Nat} {a9 : Nat} {a10 : Nat} {a11 : Nat} {a12 : Nat} {a13 : Nat} {a14 : Nat} {a15 : Nat} {o_n : Int32} {o_all : Int32} {o_made : Int32} {o_own0 : Int64} {o_own1 : Int64} {o_threatMany : Int32} {o_length : Int32} {o_tellings : Int32} {o_game : Nat → Int32} {o_near : Nat → Int64} {o_kept : Nat → Int32} {o_isKept : Nat → Int32} {o_threatOf : Nat → Int32} {o_threatSet : Nat → Int64} {o_text : Nat → Int32} {o_far : Nat → Int32} {o_back : Nat → Int32} {o_won : Nat → Int32} {o_lasts : Nat → Int32} {o_power : Nat → Int32} {o_told : Nat → Int32} {p1 : Int32} {o : Int32 × Int32 × (Nat → Int32) × (Nat → Int32)} (hc : Cx p s m args meth c yX6_fillings cX6_fillings 4 (some .int)) (hK : va_K D vwCl (TY C) s) (hA : ∀ q : Nat, s.heap.size ≤ q → A q) (hO : va_P D vwCl ([] : va_W) s.heap) (hN : ∀ q ∈ ([] : va_W), ¬ A q.1) (k24 : Int32 → Int32 → Int32 → (Nat → Int32) → (Nat → Int32) → Option (Int32 × Int32 × (Nat → Int32) × (Nat → Int32))) (hk24 : ∀ (v2 : Int32) (v3 : Int32) (o_holes : Int32) (o_hole : Nat → Int32) (o_isWon : Nat → Int32), k24 v2 v3 o_holes o_hole o_isWon = some o → ∀ (H : Heap) (locs : List Loc), va_P D vwCl (wX6 C a0 a1 a2 a3 a4 a5 a6 a7 a8 a9 a10 a11 a12 a13 a14 a15 o_n o_all o_made o_own0 o_own1 o_threatMany o_length o_holes o_tellings o_game o_near o_kept o_isKept o_threatOf o_threatSet o_text o_far o_back o_hole o_isWon o_won o_lasts o_power o_told) H → va_D A (wX6 C a0 a1 a2 a3 a4 a5 a6 a7 a8 a9 a10 a11 a12 a13 a14 a15 o_n o_all o_made o_own0 o_own1 o_threatMany o_length o_holes o_tellings o_game o_near o_kept o_isKept o_threatOf o_threatSet o_text o_far o_back o_hole o_isWon o_won o_lasts o_power o_told) → va_S A s.heap H locs → ∀ (ls : Array Slot), lv_has ls 4 [(0, .ref a0), (1, .int p1), (2, .int v2), (3, .int v3)] → W p l e R_X6_fillings s m args below meth c H locs 0 0 (MQ below (QWi D o.1 (wX6 C a0 a1 a2 a3 a4 a5 a6 a7 a8 a9 a10 a11 a12 a13 a14 a15 o_n o_all o_made o_own0 o_own1 o_threatMany o_length o.2.1 o_tellings o_game o_near o_kept o_isKept o_threatOf o_threatSet o_text o_far o_back o.2.2.1 o.2.2.2 o_won o_lasts o_power o_told) A) args s 0 0 A) (F0 m 24 ls [])) : ∀ (v3 : Int32) (t0 : Int32) (t1 : Int32) (o_holes : Int32) (o_hole : Nat → Int32) (o_isWon : Nat → Int32), m_X6_fillings_c58  k24 v3 t0 t1 o_holes o_hole o_isWon = some o → ∀ (H : Heap) (locs : List Loc), va_P D vwCl (wX6 C a0 a1 a2 a3 a4 a5 a6 a7 a8 a9 a10 a11 a12 a13 a14 a15 o_n o_all o_made o_own0 o_own1 o_threatMany o_length o_holes o_tellings o_game o_near o_kept o_isKept o_threatOf o_threatSet o_text o_far o_back o_hole o_isWon o_won o_lasts o_power o_told) H → va_D A (wX6 C a0 a1 a2 a3 a4 a5 a6 a7 a8 a9 a10 a11 a12 a13 a14 a15 o_n o_all o_made o_own0 o_own1 o_threatMany o_length o_holes o_tellings o_game o_near o_kept o_isKept o_threatOf o_threatSet o_text o_far o_back o_hole o_isWon o_won o_lasts o_power o_told) → va_S A s.heap H locs → ∀ (ls : Array Slot), lv_has ls 4 [(0, .ref a0), (1, .int p1), (3, .int v3)] → W p l e R_X6_fillings s m args below meth c H locs 0 0 (MQ below (QWi D o.1 (wX6 C a0 a1 a2 a3 a4 a5 a6 a7 a8 a9 a10 a11 a12 a13 a14 a15 o_n o_all o_made o_own0 o_own1 o_threatMany o_length o.2.1 o_tellings o_game o_near o_kept o_isKept o_threatOf o_threatSet o_text o_far o_back o.2.2.1 o.2.2.2 o_won o_lasts o_power o_told) A) args s 0 0 A) (F0 m 58 ls [.int t0, .int t1]) := by
  have hx := hc.1
  have hb := hc.2.1
  have hown := hc.2.2.2.2.1
  have hts := hc.2.2.2.2.2.1
  intro v3 t0 t1 o_holes o_hole o_isWon hf H locs hP hD hS ls hl
  refine lv_iadd hx hb dX6_fillings_58 ?_
  refine lv_istore_n (lv' := [(2, .int (t1 + t0)), (0, .ref a0), (1, .int p1), (3, .int v3)]) hx hb dX6_fillings_59 rfl hl (by decide) rfl (fun ls hl => ?_)
  refine lv_iinc (v := (v3 + (1 : Int32))) (lv' := [(3, .int (v3 + (1 : Int32))), (2, .int (t1 + t0)), (0, .ref a0), (1, .int p1)]) hx hb dX6_fillings_60 hl (k := 3) rfl rfl (by decide) rfl (fun ls hl => ?_)
  refine lv_goto (tgt := 24) hx hb dX6_fillings_63 (by decide) ?_
  exact hk24 (t1 + t0) (v3 + (1 : Int32)) o_holes o_hole o_isWon hf _ _ hP hD hS ls (lv_sub hl [2, 3, 1, 0] rfl)
def m_X6_fillings_c50  (k24 : Int32 → Int32 → Int32 → (Nat → Int32) → (Nat → Int32) → Option (Int32 × Int32 × (Nat → Int32) × (Nat → Int32))) (v3 : Int32) (t0 : Int32) (t1 : Int32) (t2 : Int32) (o_holes : Int32) (o_hole : Nat → Int32) (o_isWon : Nat → Int32) : Option (Int32 × Int32 × (Nat → Int32) × (Nat → Int32)) := (if t1 = t0 then (m_X6_fillings_c58 k24 v3 (1 : Int32) t2 o_holes o_hole o_isWon) else (m_X6_fillings_c58 k24 v3 (0 : Int32) t2 o_holes o_hole o_isWon))
set_option maxHeartbeats 4000000 in
set_option maxRecDepth 100000 in
theorem w_X6_fillings_c50 {p : Program} {l : Launch} {e : Env} {s : State} {m : MethodId} {args : Array Value} {below : List Frame} {meth : Method} {c : Code} {D : va_G} {C : Nat → ClassId} {A : Nat → Prop} {a0 : Nat} {a1 : Nat} {a2 : Nat} {a3 : Nat} {a4 : Nat} {a5 : Nat} {a6 : Nat} {a7 : Nat} {a8 : Nat} {a9 : Nat} {a10 : Nat} {a11 : Nat} {a12 : Nat} {a13 : Nat} {a14 : Nat} {a15 : Nat} {o_n : Int32} {o_all : Int32} {o_made : Int32} {o_own0 : Int64} {o_own1 : Int64} {o_threatMany : Int32} {o_length : Int32} {o_tellings : Int32} {o_game : Nat → Int32} {o_near : Nat → Int64} {o_kept : Nat → Int32} {o_isKept : Nat → Int32} {o_threatOf : Nat → Int32} {o_threatSet : Nat → Int64} {o_text : Nat → Int32} {o_far : Nat → Int32} {o_back : Nat → Int32} {o_won : Nat → Int32} {o_lasts : Nat → Int32} {o_power : Nat → Int32} {o_told : Nat → Int32} {p1 : Int32} {o : Int32 × Int32 × (Nat → Int32) × (Nat → Int32)} (hc : Cx p s m args meth c yX6_fillings cX6_fillings 4 (some .int)) (hK : va_K D vwCl (TY C) s) (hA : ∀ q : Nat, s.heap.size ≤ q → A q) (hO : va_P D vwCl ([] : va_W) s.heap) (hN : ∀ q ∈ ([] : va_W), ¬ A q.1) (k24 : Int32 → Int32 → Int32 → (Nat → Int32) → (Nat → Int32) → Option (Int32 × Int32 × (Nat → Int32) × (Nat → Int32))) (hk24 : ∀ (v2 : Int32) (v3 : Int32) (o_holes : Int32) (o_hole : Nat → Int32) (o_isWon : Nat → Int32), k24 v2 v3 o_holes o_hole o_isWon = some o → ∀ (H : Heap) (locs : List Loc), va_P D vwCl (wX6 C a0 a1 a2 a3 a4 a5 a6 a7 a8 a9 a10 a11 a12 a13 a14 a15 o_n o_all o_made o_own0 o_own1 o_threatMany o_length o_holes o_tellings o_game o_near o_kept o_isKept o_threatOf o_threatSet o_text o_far o_back o_hole o_isWon o_won o_lasts o_power o_told) H → va_D A (wX6 C a0 a1 a2 a3 a4 a5 a6 a7 a8 a9 a10 a11 a12 a13 a14 a15 o_n o_all o_made o_own0 o_own1 o_threatMany o_length o_holes o_tellings o_game o_near o_kept o_isKept o_threatOf o_threatSet o_text o_far o_back o_hole o_isWon o_won o_lasts o_power o_told) → va_S A s.heap H locs → ∀ (ls : Array Slot), lv_has ls 4 [(0, .ref a0), (1, .int p1), (2, .int v2), (3, .int v3)] → W p l e R_X6_fillings s m args below meth c H locs 0 0 (MQ below (QWi D o.1 (wX6 C a0 a1 a2 a3 a4 a5 a6 a7 a8 a9 a10 a11 a12 a13 a14 a15 o_n o_all o_made o_own0 o_own1 o_threatMany o_length o.2.1 o_tellings o_game o_near o_kept o_isKept o_threatOf o_threatSet o_text o_far o_back o.2.2.1 o.2.2.2 o_won o_lasts o_power o_told) A) args s 0 0 A) (F0 m 24 ls [])) : ∀ (v3 : Int32) (t0 : Int32) (t1 : Int32) (t2 : Int32) (o_holes : Int32) (o_hole : Nat → Int32) (o_isWon : Nat → Int32), m_X6_fillings_c50  k24 v3 t0 t1 t2 o_holes o_hole o_isWon = some o → ∀ (H : Heap) (locs : List Loc), va_P D vwCl (wX6 C a0 a1 a2 a3 a4 a5 a6 a7 a8 a9 a10 a11 a12 a13 a14 a15 o_n o_all o_made o_own0 o_own1 o_threatMany o_length o_holes o_tellings o_game o_near o_kept o_isKept o_threatOf o_threatSet o_text o_far o_back o_hole o_isWon o_won o_lasts o_power o_told) H → va_D A (wX6 C a0 a1 a2 a3 a4 a5 a6 a7 a8 a9 a10 a11 a12 a13 a14 a15 o_n o_all o_made o_own0 o_own1 o_threatMany o_length o_holes o_tellings o_game o_near o_kept o_isKept o_threatOf o_threatSet o_text o_far o_back o_hole o_isWon o_won o_lasts o_power o_told) → va_S A s.heap H locs → ∀ (ls : Array Slot), lv_has ls 4 [(0, .ref a0), (1, .int p1), (3, .int v3)] → W p l e R_X6_fillings s m args below meth c H locs 0 0 (MQ below (QWi D o.1 (wX6 C a0 a1 a2 a3 a4 a5 a6 a7 a8 a9 a10 a11 a12 a13 a14 a15 o_n o_all o_made o_own0 o_own1 o_threatMany o_length o.2.1 o_tellings o_game o_near o_kept o_isKept o_threatOf o_threatSet o_text o_far o_back o.2.2.1 o.2.2.2 o_won o_lasts o_power o_told) A) args s 0 0 A) (F0 m 50 ls [.int t0, .int t1, .int t2]) := by
  have hx := hc.1
  have hb := hc.2.1
  have hown := hc.2.2.2.2.1
  have hts := hc.2.2.2.2.2.1
  intro v3 t0 t1 t2 o_holes o_hole o_isWon hf H locs hP hD hS ls hl
  refine lv_icmp_ne (tgt := 57) hx hb dX6_fillings_50 (by decide) (fun c7 => ?_) (fun c7 => ?_)
  · have hf := if_f hf c7
    refine lv_iconst (v := (0 : Int32)) hx hb dX6_fillings_57 (by decide) ?_
    exact w_X6_fillings_c58 hc hK hA hO hN k24 hk24 v3 (0 : Int32) t2 o_holes o_hole o_isWon hf _ _ hP hD hS ls (lv_sub hl [0, 1, 2] rfl)
  · have hf := if_t hf c7
    refine lv_iconst (v := (1 : Int32)) hx hb dX6_fillings_53 (by decide) ?_
    refine lv_goto (tgt := 58) hx hb dX6_fillings_54 (by decide) ?_
    exact w_X6_fillings_c58 hc hK hA hO hN k24 hk24 v3 (1 : Int32) t2 o_holes o_hole o_isWon hf _ _ hP hD hS ls (lv_sub hl [0, 1, 2] rfl)
def m_X6_fillings_c24 (p1 : Int32)  : Nat → Int32 → Int32 → Int32 → (Nat → Int32) → (Nat → Int32) → Option (Int32 × Int32 × (Nat → Int32) × (Nat → Int32))
  | 0, _, _, _, _, _ => none
  | n + 1, v2, v3, o_holes, o_hole, o_isWon => (if ((1 : Int32) <<< (o_holes &&& 31)) ≤ v3 then some (v2, o_holes, o_hole, o_isWon) else (if okI v3 4096 = true then (if p1 = 0 then (m_X6_fillings_c50 (m_X6_fillings_c24 p1  n) v3 (1 : Int32) (o_isWon v3.toNatClampNeg) v2 o_holes o_hole o_isWon) else (m_X6_fillings_c50 (m_X6_fillings_c24 p1  n) v3 (0 : Int32) (o_isWon v3.toNatClampNeg) v2 o_holes o_hole o_isWon)) else none))
set_option maxHeartbeats 4000000 in
set_option maxRecDepth 100000 in
theorem w_X6_fillings_c24 {p : Program} {l : Launch} {e : Env} {s : State} {m : MethodId} {args : Array Value} {below : List Frame} {meth : Method} {c : Code} {D : va_G} {C : Nat → ClassId} {A : Nat → Prop} {a0 : Nat} {a1 : Nat} {a2 : Nat} {a3 : Nat} {a4 : Nat} {a5 : Nat} {a6 : Nat} {a7 : Nat} {a8 : Nat} {a9 : Nat} {a10 : Nat} {a11 : Nat} {a12 : Nat} {a13 : Nat} {a14 : Nat} {a15 : Nat} {o_n : Int32} {o_all : Int32} {o_made : Int32} {o_own0 : Int64} {o_own1 : Int64} {o_threatMany : Int32} {o_length : Int32} {o_tellings : Int32} {o_game : Nat → Int32} {o_near : Nat → Int64} {o_kept : Nat → Int32} {o_isKept : Nat → Int32} {o_threatOf : Nat → Int32} {o_threatSet : Nat → Int64} {o_text : Nat → Int32} {o_far : Nat → Int32} {o_back : Nat → Int32} {o_won : Nat → Int32} {o_lasts : Nat → Int32} {o_power : Nat → Int32} {o_told : Nat → Int32} {p1 : Int32} {o : Int32 × Int32 × (Nat → Int32) × (Nat → Int32)} (hc : Cx p s m args meth c yX6_fillings cX6_fillings 4 (some .int)) (hK : va_K D vwCl (TY C) s) (hA : ∀ q : Nat, s.heap.size ≤ q → A q) (hO : va_P D vwCl ([] : va_W) s.heap) (hN : ∀ q ∈ ([] : va_W), ¬ A q.1) : ∀ (n : Nat), ∀ (v2 : Int32) (v3 : Int32) (o_holes : Int32) (o_hole : Nat → Int32) (o_isWon : Nat → Int32), m_X6_fillings_c24 p1  n v2 v3 o_holes o_hole o_isWon = some o → ∀ (H : Heap) (locs : List Loc), va_P D vwCl (wX6 C a0 a1 a2 a3 a4 a5 a6 a7 a8 a9 a10 a11 a12 a13 a14 a15 o_n o_all o_made o_own0 o_own1 o_threatMany o_length o_holes o_tellings o_game o_near o_kept o_isKept o_threatOf o_threatSet o_text o_far o_back o_hole o_isWon o_won o_lasts o_power o_told) H → va_D A (wX6 C a0 a1 a2 a3 a4 a5 a6 a7 a8 a9 a10 a11 a12 a13 a14 a15 o_n o_all o_made o_own0 o_own1 o_threatMany o_length o_holes o_tellings o_game o_near o_kept o_isKept o_threatOf o_threatSet o_text o_far o_back o_hole o_isWon o_won o_lasts o_power o_told) → va_S A s.heap H locs → ∀ (ls : Array Slot), lv_has ls 4 [(0, .ref a0), (1, .int p1), (2, .int v2), (3, .int v3)] → W p l e R_X6_fillings s m args below meth c H locs 0 0 (MQ below (QWi D o.1 (wX6 C a0 a1 a2 a3 a4 a5 a6 a7 a8 a9 a10 a11 a12 a13 a14 a15 o_n o_all o_made o_own0 o_own1 o_threatMany o_length o.2.1 o_tellings o_game o_near o_kept o_isKept o_threatOf o_threatSet o_text o_far o_back o.2.2.1 o.2.2.2 o_won o_lasts o_power o_told) A) args s 0 0 A) (F0 m 24 ls []) := by
  have hx := hc.1
  have hb := hc.2.1
  have hown := hc.2.2.2.2.1
  have hts := hc.2.2.2.2.2.1
  intro n
  induction n with
  | zero =>
    intro v2 v3 o_holes o_hole o_isWon hf
    exact no_some hf
  | succ n ih =>
    intro v2 v3 o_holes o_hole o_isWon hf H locs hP hD hS ls hl
    refine lv_iload_n hx hb dX6_fillings_24 rfl (lv_at hl 3 rfl) ?_
    refine lv_iconst (v := (1 : Int32)) hx hb dX6_fillings_25 (by decide) ?_
    refine lv_aload_n hx hb dX6_fillings_26 rfl (lv_at hl 0 rfl) ?_
    refine va_get (D := D) (ci := 6) (v := .int o_holes) (C := RX6) (T := TX6) (N := 24) hx hb hts inX6 hown hK hP 0 rfl rfl 17 (by decide) (hts _ q_671) (fun _ h9 => h9) rfl dX6_fillings_27 ?_
    refine lv_ishl hx hb dX6_fillings_30 ?_
    refine lv_icmp_ge (tgt := 66) hx hb dX6_fillings_31 (by decide) (fun c4 => ?_) (fun c4 => ?_)
    · have hf := if_t hf c4
      refine lv_iload_n hx hb dX6_fillings_66 rfl (lv_at hl 2 rfl) ?_
      have hf := Option.some.inj hf
      subst hf
      exact rWi hc rfl hP hD hS dX6_fillings_67
    · have hf := if_f hf c4
      refine lv_iload_n hx hb dX6_fillings_34 rfl (lv_at hl 2 rfl) ?_
      refine lv_aload_n hx hb dX6_fillings_35 rfl (lv_at hl 0 rfl) ?_
      refine va_get (D := D) (ci := 6) (v := .ref a11) (C := RX6) (T := TX6) (N := 24) hx hb hts inX6 hown hK hP 0 rfl rfl 18 (by decide) (hts _ q_672) (fun _ h9 => h9) rfl dX6_fillings_36 ?_
      refine lv_iload_n hx hb dX6_fillings_39 rfl (lv_at hl 3 rfl) ?_
      obtain ⟨h5, hf⟩ := ok_t hf
      refine va_zald hx hb hK hP 11 3 rfl rfl (okI_in h5) dX6_fillings_40 ?_
      refine lv_iload_n hx hb dX6_fillings_41 rfl (lv_at hl 1 rfl) ?_
      refine lv_if_ne (tgt := 49) hx hb dX6_fillings_42 (by decide) (fun c6 => ?_) (fun c6 => ?_)
      · have hf := if_f hf c6
        refine lv_iconst (v := (0 : Int32)) hx hb dX6_fillings_49 (by decide) ?_
        exact w_X6_fillings_c50 hc hK hA hO hN (m_X6_fillings_c24 p1  n) ih v3 (0 : Int32) (o_isWon v3.toNatClampNeg) v2 o_holes o_hole o_isWon hf _ _ hP hD hS ls (lv_sub hl [0, 1, 3] rfl)
      · have hf := if_t hf c6
        refine lv_iconst (v := (1 : Int32)) hx hb dX6_fillings_45 (by decide) ?_
        refine lv_goto (tgt := 50) hx hb dX6_fillings_46 (by decide) ?_
        exact w_X6_fillings_c50 hc hK hA hO hN (m_X6_fillings_c24 p1  n) ih v3 (1 : Int32) (o_isWon v3.toNatClampNeg) v2 o_holes o_hole o_isWon hf _ _ hP hD hS ls (lv_sub hl [0, 1, 3] rfl)
def m_X6_fillings (o_n : Int32) (o_own0 : Int64) (o_own1 : Int64) (o_holes : Int32) (o_near : Nat → Int64) (o_hole : Nat → Int32) (o_isWon : Nat → Int32) (p1 : Int32) : Option (Int32 × Int32 × (Nat → Int32) × (Nat → Int32)) := (if (m_X6_isPlayer p1) = 0 then some ((-11 : Int32), o_holes, o_hole, o_isWon) else ((m_X6_fills o_n o_own0 o_own1 o_near o_hole o_isWon).bind fun u2 => (if u2.1 = 0 then some ((-13 : Int32), u2.2.1, u2.2.2.1, u2.2.2.2) else (m_X6_fillings_c24 p1 FU (0 : Int32) (0 : Int32) u2.2.1 u2.2.2.1 u2.2.2.2))))
set_option maxHeartbeats 4000000 in
set_option maxRecDepth 100000 in
theorem c_X6_fillings (l : Launch) (D : va_G) (C : Nat → ClassId) (sz : Nat) (a0 : Nat) (a1 : Nat) (a2 : Nat) (a3 : Nat) (a4 : Nat) (a5 : Nat) (a6 : Nat) (a7 : Nat) (a8 : Nat) (a9 : Nat) (a10 : Nat) (a11 : Nat) (a12 : Nat) (a13 : Nat) (a14 : Nat) (a15 : Nat) (o_n : Int32) (o_all : Int32) (o_made : Int32) (o_own0 : Int64) (o_own1 : Int64) (o_threatMany : Int32) (o_length : Int32) (o_holes : Int32) (o_tellings : Int32) (o_game : Nat → Int32) (o_near : Nat → Int64) (o_kept : Nat → Int32) (o_isKept : Nat → Int32) (o_threatOf : Nat → Int32) (o_threatSet : Nat → Int64) (o_text : Nat → Int32) (o_far : Nat → Int32) (o_back : Nat → Int32) (o_hole : Nat → Int32) (o_isWon : Nat → Int32) (o_won : Nat → Int32) (o_lasts : Nat → Int32) (o_power : Nat → Int32) (o_told : Nat → Int32) (p1 : Int32) (o : Int32 × Int32 × (Nat → Int32) × (Nat → Int32)) (hf : m_X6_fillings o_n o_own0 o_own1 o_holes o_near o_hole o_isWon p1 = some o) : Met l yX6_fillings (wl yX6_fillings cX6_fillings 4 (some .int)) R_X6_fillings (PW [.ref a0, .int p1] D C sz (wX6 C a0 a1 a2 a3 a4 a5 a6 a7 a8 a9 a10 a11 a12 a13 a14 a15 o_n o_all o_made o_own0 o_own1 o_threatMany o_length o_holes o_tellings o_game o_near o_kept o_isKept o_threatOf o_threatSet o_text o_far o_back o_hole o_isWon o_won o_lasts o_power o_told) ([] : va_W)) (QWi D o.1 (wX6 C a0 a1 a2 a3 a4 a5 a6 a7 a8 a9 a10 a11 a12 a13 a14 a15 o_n o_all o_made o_own0 o_own1 o_threatMany o_length o.2.1 o_tellings o_game o_near o_kept o_isKept o_threatOf o_threatSet o_text o_far o_back o.2.2.1 o.2.2.2 o_won o_lasts o_power o_told) (va_A (wX6 C a0 a1 a2 a3 a4 a5 a6 a7 a8 a9 a10 a11 a12 a13 a14 a15 o_n o_all o_made o_own0 o_own1 o_threatMany o_length o_holes o_tellings o_game o_near o_kept o_isKept o_threatOf o_threatSet o_text o_far o_back o_hole o_isWon o_won o_lasts o_power o_told) sz)) 0 0 (va_A (wX6 C a0 a1 a2 a3 a4 a5 a6 a7 a8 a9 a10 a11 a12 a13 a14 a15 o_n o_all o_made o_own0 o_own1 o_threatMany o_length o_holes o_tellings o_game o_near o_kept o_isKept o_threatOf o_threatSet o_text o_far o_back o_hole o_isWon o_won o_lasts o_power o_told) sz) := by
  refine Met_ofC (by decide) ?_
  intro p e s m args below meth c hc hv
  obtain ⟨rfl, hsz, hP, hK, hD0, hO, hN0⟩ := hv
  subst hsz
  have hD := hD0.self (sz := s.heap.size)
  have hN : ∀ q ∈ ([] : va_W), ¬ va_A (wX6 C a0 a1 a2 a3 a4 a5 a6 a7 a8 a9 a10 a11 a12 a13 a14 a15 o_n o_all o_made o_own0 o_own1 o_threatMany o_length o_holes o_tellings o_game o_near o_kept o_isKept o_threatOf o_threatSet o_text o_far o_back o_hole o_isWon o_won o_lasts o_power o_told) s.heap.size q.1 := hN0
  generalize hAe : va_A (wX6 C a0 a1 a2 a3 a4 a5 a6 a7 a8 a9 a10 a11 a12 a13 a14 a15 o_n o_all o_made o_own0 o_own1 o_threatMany o_length o_holes o_tellings o_game o_near o_kept o_isKept o_threatOf o_threatSet o_text o_far o_back o_hole o_isWon o_won o_lasts o_power o_told) s.heap.size = A at hD hN ⊢
  have hA : ∀ q : Nat, s.heap.size ≤ q → A q := fun q h => by rw [← hAe]; exact Or.inr h
  have hS : va_S A s.heap s.heap [] := va_S.rf
  have hx := hc.1
  have hb := hc.2.1
  have hown := hc.2.2.2.2.1
  have hts := hc.2.2.2.2.2.1
  refine en_F rfl (fun ls hl => ?_)
  have hl : lv_has ls 4 [(0, .ref a0), (1, .int p1)] := hl
  refine lv_iload_n hx hb dX6_fillings_0 rfl (lv_at hl 1 rfl) ?_
  refine rcSi (As := [.int p1]) (rest := []) hc k_X6_136 (c_X6_isPlayer l D C p1  _ rfl) ⟨rfl, rfl, Nat.le_of_ble_eq_true rfl, Nat.le_of_ble_eq_true rfl⟩ (hP.sub [] rfl) hK hl rfl rfl (Nat.le_of_ble_eq_true rfl) ⟨Nat.zero_le _, Nat.zero_le _⟩ dX6_fillings_1 ?_
  refine lv_if_ne (tgt := 10) hx hb dX6_fillings_4 (by decide) (fun c1 => ?_) (fun c1 => ?_)
  · have hf := if_f hf c1
    refine lv_aload_n hx hb dX6_fillings_10 rfl (lv_at hl 0 rfl) ?_
    obtain ⟨u2, hu2, hf⟩ := bind_some hf
    refine wcVi (A := A) (wc := wX6 C a0 a1 a2 a3 a4 a5 a6 a7 a8 a9 a10 a11 a12 a13 a14 a15 o_n o_all o_made o_own0 o_own1 o_threatMany o_length o_holes o_tellings o_game o_near o_kept o_isKept o_threatOf o_threatSet o_text o_far o_back o_hole o_isWon o_won o_lasts o_power o_told) (w1 := wX6 C a0 a1 a2 a3 a4 a5 a6 a7 a8 a9 a10 a11 a12 a13 a14 a15 o_n o_all o_made o_own0 o_own1 o_threatMany o_length u2.2.1 o_tellings o_game o_near o_kept o_isKept o_threatOf o_threatSet o_text o_far o_back u2.2.2.1 u2.2.2.2 o_won o_lasts o_power o_told) (rc := []) (As := []) (rest := []) hc k_X6_184 (c_X6_fills l D C _ a0 a1 a2 a3 a4 a5 a6 a7 a8 a9 a10 a11 a12 a13 a14 a15 o_n o_all o_made o_own0 o_own1 o_threatMany o_length o_holes o_tellings o_game o_near o_kept o_isKept o_threatOf o_threatSet o_text o_far o_back o_hole o_isWon o_won o_lasts o_power o_told  _ hu2) ⟨rfl, rfl, Nat.le_of_ble_eq_true rfl, Nat.le_of_ble_eq_true rfl⟩ hP hD hS hA hK [0, 1, 2, 3, 4, 5, 6, 7, 8, 9, 10, 11, 12, 13, 14, 15] [] rfl rfl rfl rfl (by decide) (hP.sub [] rfl) Ap_nil (q0 := 0) rfl rfl rfl hl rfl rfl (Nat.le_of_ble_eq_true rfl) ⟨Nat.zero_le _, Nat.zero_le _⟩ dX6_fillings_11 (fun H locs hP hD hS => ?_)
    have hP : va_P D vwCl (wX6 C a0 a1 a2 a3 a4 a5 a6 a7 a8 a9 a10 a11 a12 a13 a14 a15 o_n o_all o_made o_own0 o_own1 o_threatMany o_length u2.2.1 o_tellings o_game o_near o_kept o_isKept o_threatOf o_threatSet o_text o_far o_back u2.2.2.1 u2.2.2.2 o_won o_lasts o_power o_told) H := hP.sub [0, 1, 2, 3, 4, 5, 6, 7, 8, 9, 10, 11, 12, 13, 14, 15] rfl
    have hD : va_D A (wX6 C a0 a1 a2 a3 a4 a5 a6 a7 a8 a9 a10 a11 a12 a13 a14 a15 o_n o_all o_made o_own0 o_own1 o_threatMany o_length u2.2.1 o_tellings o_game o_near o_kept o_isKept o_threatOf o_threatSet o_text o_far o_back u2.2.2.1 u2.2.2.2 o_won o_lasts o_power o_told) := hD.sub [0, 1, 2, 3, 4, 5, 6, 7, 8, 9, 10, 11, 12, 13, 14, 15] rfl rfl
    refine lv_if_ne (tgt := 20) hx hb dX6_fillings_14 (by decide) (fun c3 => ?_) (fun c3 => ?_)
    · have hf := if_f hf c3
      refine lv_iconst (v := (0 : Int32)) hx hb dX6_fillings_20 (by decide) ?_
      refine lv_istore_n (lv' := [(2, .int (0 : Int32)), (0, .ref a0), (1, .int p1)]) hx hb dX6_fillings_21 rfl hl (by decide) rfl (fun ls hl => ?_)
      refine lv_iconst (v := (0 : Int32)) hx hb dX6_fillings_22 (by decide) ?_
      refine lv_istore_n (lv' := [(3, .int (0 : Int32)), (2, .int (0 : Int32)), (0, .ref a0), (1, .int p1)]) hx hb dX6_fillings_23 rfl hl (by decide) rfl (fun ls hl => ?_)
      exact w_X6_fillings_c24 hc hK hA hO hN  FU (0 : Int32) (0 : Int32) u2.2.1 u2.2.2.1 u2.2.2.2 hf _ _ hP hD hS ls (lv_sub hl [2, 3, 1, 0] rfl)
    · have hf := if_t hf c3
      refine lv_bipush (v := (-13 : Int32)) hx hb dX6_fillings_17 (by decide) ?_
      have hf := Option.some.inj hf
      subst hf
      exact rWi hc rfl hP hD hS dX6_fillings_19
  · have hf := if_t hf c1
    refine lv_bipush (v := (-11 : Int32)) hx hb dX6_fillings_7 (by decide) ?_
    have hf := Option.some.inj hf
    subst hf
    exact rWi hc rfl hP hD hS dX6_fillings_9

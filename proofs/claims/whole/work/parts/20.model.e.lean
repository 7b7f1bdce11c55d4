abbrev R_X6_duration : Room := { frames := 5, cells := 0, slots := 0, locals := 120 }
def m_X6_duration (o_n : Int32) (o_made : Int32) (o_own0 : Int64) (o_own1 : Int64) (o_near : Nat → Int64) (o_hole : Nat → Int32) (o_won : Nat → Int32) (o_lasts : Nat → Int32) (o_power : Nat → Int32) : Option (Int32 × Int32 × (Nat → Int32) × (Nat → Int32) × (Nat → Int32) × (Nat → Int32)) := ((m_X6_solves o_n o_made o_own0 o_own1 o_near o_hole o_won o_lasts o_power).bind fun u1 => (if u1.1 = 0 then some ((-13 : Int32), u1.2.1, u1.2.2.1, u1.2.2.2.1, u1.2.2.2.2.1, u1.2.2.2.2.2) else some ((u1.2.2.2.2.1 (0 : Int32).toNatClampNeg), u1.2.1, u1.2.2.1, u1.2.2.2.1, u1.2.2.2.2.1, u1.2.2.2.2.2)))
set_option maxHeartbeats 4000000 in
set_option maxRecDepth 100000 in
theorem c_X6_duration (l : Launch) (D : va_G) (C : Nat → ClassId) (sz : Nat) (a0 : Nat) (a1 : Nat) (a2 : Nat) (a3 : Nat) (a4 : Nat) (a5 : Nat) (a6 : Nat) (a7 : Nat) (a8 : Nat) (a9 : Nat) (a10 : Nat) (a11 : Nat) (a12 : Nat) (a13 : Nat) (a14 : Nat) (a15 : Nat) (o_n : Int32) (o_all : Int32) (o_made : Int32) (o_own0 : Int64) (o_own1 : Int64) (o_threatMany : Int32) (o_length : Int32) (o_holes : Int32) (o_tellings : Int32) (o_game : Nat → Int32) (o_near : Nat → Int64) (o_kept : Nat → Int32) (o_isKept : Nat → Int32) (o_threatOf : Nat → Int32) (o_threatSet : Nat → Int64) (o_text : Nat → Int32) (o_far : Nat → Int32) (o_back : Nat → Int32) (o_hole : Nat → Int32) (o_isWon : Nat → Int32) (o_won : Nat → Int32) (o_lasts : Nat → Int32) (o_power : Nat → Int32) (o_told : Nat → Int32) (o : Int32 × Int32 × (Nat → Int32) × (Nat → Int32) × (Nat → Int32) × (Nat → Int32)) (hf : m_X6_duration o_n o_made o_own0 o_own1 o_near o_hole o_won o_lasts o_power = some o) : Met l yX6_duration (wl yX6_duration cX6_duration 1 (some .int)) R_X6_duration (PW [.ref a0] D C sz (wX6 C a0 a1 a2 a3 a4 a5 a6 a7 a8 a9 a10 a11 a12 a13 a14 a15 o_n o_all o_made o_own0 o_own1 o_threatMany o_length o_holes o_tellings o_game o_near o_kept o_isKept o_threatOf o_threatSet o_text o_far o_back o_hole o_isWon o_won o_lasts o_power o_told) ([] : va_W)) (QWi D o.1 (wX6 C a0 a1 a2 a3 a4 a5 a6 a7 a8 a9 a10 a11 a12 a13 a14 a15 o_n o_all o_made o_own0 o_own1 o_threatMany o_length o.2.1 o_tellings o_game o_near o_kept o_isKept o_threatOf o_threatSet o_text o_far o_back o.2.2.1 o_isWon o.2.2.2.1 o.2.2.2.2.1 o.2.2.2.2.2 o_told) (va_A (wX6 C a0 a1 a2 a3 a4 a5 a6 a7 a8 a9 a10 a11 a12 a13 a14 a15 o_n o_all o_made o_own0 o_own1 o_threatMany o_length o_holes o_tellings o_game o_near o_kept o_isKept o_threatOf o_threatSet o_text o_far o_back o_hole o_isWon o_won o_lasts o_power o_told) sz)) 0 0 (va_A (wX6 C a0 a1 a2 a3 a4 a5 a6 a7 a8 a9 a10 a11 a12 a13 a14 a15 o_n o_all o_made o_own0 o_own1 o_threatMany o_length o_holes o_tellings o_game o_near o_kept o_isKept o_threatOf o_threatSet o_text o_far o_back o_hole o_isWon o_won o_lasts o_power o_told) sz) := by
  refine Met_ofC (by decide) ?_
  intro p e s m args below meth c hc hv
  obtain ⟨rfl, hsz, hP, hK, hD0, hO, hN0⟩ := hv
  subst hsz
  have hD := hD0.self (sz := s.heap.size)
  have hN : ∀ q ∈ ([] : va_W), ¬ va_A (wX6 C a0 a1 a2 a3 a4 a5 a6 a7 a8 a9 a10 a11 a12 a13 a14 a15 o_n o_all o_made o_own0 o_own1 o_threatMany o_length o_holes o_tellings o_game o_near o_kept o_isKept o_threatOf o_threatSet o_text o_far o_back o_hole o_isWon o_won o_lasts o_power o_told) s.heap.size q.1 := hN0
  generalize hAe : va_A (wX6 C a0 a1 a2 a3 a4 a5 a6 a7 a8 a9 a10 a11 a12 a13 a14 a15 o_n o_all o_made o_own0 o_own1 o_threatMany o_length o_holes o_tellings o_game o_near o_kept o_isKept o_threatOf o_threatSet o_text o_far o_back o_hole o_isWon o_won o_lasts o_power o_told) s.heap.size = A at hD hN ⊢
  have hA : ∀ q : Nat, s.heap.size ≤ q → A q := fun q h => by rw [← hAe]; exact Or.inr h
  have hS : va_S A s.heap s.heap [] := va_S.rf
  have hx := hc.1
  have hb := hc.2.1
  have hown := hc.2.2.2.2.1
  have hts := hc.2.2.2.2.2.1
  refine en_F rfl (fun ls hl => ?_)
  have hl : lv_has ls 1 [(0, .ref a0)] := hl
  refine lv_aload_n hx hb dX6_duration_0 rfl (lv_at hl 0 rfl) ?_
  obtain ⟨u1, hu1, hf⟩ := bind_some hf
  refine wcVi (A := A) (wc := wX6 C a0 a1 a2 a3 a4 a5 a6 a7 a8 a9 a10 a11 a12 a13 a14 a15 o_n o_all o_made o_own0 o_own1 o_threatMany o_length o_holes o_tellings o_game o_near o_kept o_isKept o_threatOf o_threatSet o_text o_far o_back o_hole o_isWon o_won o_lasts o_power o_told) (w1 := wX6 C a0 a1 a2 a3 a4 a5 a6 a7 a8 a9 a10 a11 a12 a13 a14 a15 o_n o_all o_made o_own0 o_own1 o_threatMany o_length u1.2.1 o_tellings o_game o_near o_kept o_isKept o_threatOf o_threatSet o_text o_far o_back u1.2.2.1 o_isWon u1.2.2.2.1 u1.2.2.2.2.1 u1.2.2.2.2.2 o_told) (rc := []) (As := []) (rest := []) hc k_X6_210 (c_X6_solves l D C _ a0 a1 a2 a3 a4 a5 a6 a7 a8 a9 a10 a11 a12 a13 a14 a15 o_n o_all o_made o_own0 o_own1 o_threatMany o_length o_holes o_tellings o_game o_near o_kept o_isKept o_threatOf o_threatSet o_text o_far o_back o_hole o_isWon o_won o_lasts o_power o_told  _ hu1) ⟨rfl, rfl, Nat.le_of_ble_eq_true rfl, Nat.le_of_ble_eq_true rfl⟩ hP hD hS hA hK [0, 1, 2, 3, 4, 5, 6, 7, 8, 9, 10, 11, 12, 13, 14, 15] [] rfl rfl rfl rfl (by decide) (hP.sub [] rfl) Ap_nil (q0 := 0) rfl rfl rfl hl rfl rfl (Nat.le_of_ble_eq_true rfl) ⟨Nat.zero_le _, Nat.zero_le _⟩ dX6_duration_1 (fun H locs hP hD hS => ?_)
  have hP : va_P D vwCl (wX6 C a0 a1 a2 a3 a4 a5 a6 a7 a8 a9 a10 a11 a12 a13 a14 a15 o_n o_all o_made o_own0 o_own1 o_threatMany o_length u1.2.1 o_tellings o_game o_near o_kept o_isKept o_threatOf o_threatSet o_text o_far o_back u1.2.2.1 o_isWon u1.2.2.2.1 u1.2.2.2.2.1 u1.2.2.2.2.2 o_told) H := hP.sub [0, 1, 2, 3, 4, 5, 6, 7, 8, 9, 10, 11, 12, 13, 14, 15] rfl
  have hD : va_D A (wX6 C a0 a1 a2 a3 a4 a5 a6 a7 a8 a9 a10 a11 a12 a13 a14 a15 o_n o_all o_made o_own0 o_own1 o_threatMany o_length u1.2.1 o_tellings o_game o_near o_kept o_isKept o_threatOf o_threatSet o_text o_far o_back u1.2.2.1 o_isWon u1.2.2.2.1 u1.2.2.2.2.1 u1.2.2.2.2.2 o_told) := hD.sub [0, 1, 2, 3, 4, 5, 6, 7, 8, 9, 10, 11, 12, 13, 14, 15] rfl rfl
  refine lv_if_eq (tgt := 16) hx hb dX6_duration_4 (by decide) (fun c2 => ?_) (fun c2 => ?_)
  · have hf := if_t hf c2
    refine lv_bipush (v := (-13 : Int32)) hx hb dX6_duration_16 (by decide) ?_
    have hf := Option.some.inj hf
    subst hf
    exact rWi hc rfl hP hD hS dX6_duration_18
  · have hf := if_f hf c2
    refine lv_aload_n hx hb dX6_duration_7 rfl (lv_at hl 0 rfl) ?_
    refine va_get (D := D) (ci := 6) (v := .ref a13) (C := RX6) (T := TX6) (N := 24) hx hb hts inX6 hown hK hP 0 rfl rfl 20 (by decide) (hts _ q_674) (fun _ h9 => h9) rfl dX6_duration_8 ?_
    refine lv_iconst (v := (0 : Int32)) hx hb dX6_duration_11 (by decide) ?_
    refine va_iald hx hb hK hP 13 0 rfl rfl (okI_in (by decide)) dX6_duration_12 ?_
    refine lv_goto (tgt := 18) hx hb dX6_duration_13 (by decide) ?_
    have hf := Option.some.inj hf
    subst hf
    exact rWi hc rfl hP hD hS dX6_duration_18
abbrev R_X6_winningOpenings : Room := { frames := 6, cells := 0, slots := 0, locals := 141 }
def m_X6_winningOpenings_c61 (o_game : Nat → Int32)  (v2 : Int32) (v3 : Int32) (t0 : Int64) (o_n : Int32) (o_made : Int32) (o_own0 : Int64) (o_own1 : Int64) (o_holes : Int32) (o_near : Nat → Int64) (o_hole : Nat → Int32) (o_won : Nat → Int32) (o_lasts : Nat → Int32) (o_power : Nat → Int32) : Option (Int64 × Int32 × Int32 × Int64 × Int64 × Int32 × (Nat → Int64) × (Nat → Int32) × (Nat → Int32) × (Nat → Int32) × (Nat → Int32)) := ((m_X6_shapes v2 o_near).bind fun u6 => ((m_X6_goes v2 o_game v3).bind fun u7 => some (t0, v2, v3, u7.1, u7.2, o_holes, u6, o_hole, o_won, o_lasts, o_power)))
set_option maxHeartbeats 4000000 in
set_option maxRecDepth 100000 in
theorem w_X6_winningOpenings_c61 {p : Program} {l : Launch} {e : Env} {s : State} {m : MethodId} {args : Array Value} {below : List Frame} {meth : Method} {c : Code} {D : va_G} {C : Nat → ClassId} {A : Nat → Prop} {a0 : Nat} {a1 : Nat} {a2 : Nat} {a3 : Nat} {a4 : Nat} {a5 : Nat} {a6 : Nat} {a7 : Nat} {a8 : Nat} {a9 : Nat} {a10 : Nat} {a11 : Nat} {a12 : Nat} {a13 : Nat} {a14 : Nat} {a15 : Nat} {o_all : Int32} {o_threatMany : Int32} {o_length : Int32} {o_tellings : Int32} {o_game : Nat → Int32} {o_kept : Nat → Int32} {o_isKept : Nat → Int32} {o_threatOf : Nat → Int32} {o_threatSet : Nat → Int64} {o_text : Nat → Int32} {o_far : Nat → Int32} {o_back : Nat → Int32} {o_isWon : Nat → Int32} {o_told : Nat → Int32} {o : Int64 × Int32 × Int32 × Int64 × Int64 × Int32 × (Nat → Int64) × (Nat → Int32) × (Nat → Int32) × (Nat → Int32) × (Nat → Int32)} (hc : Cx p s m args meth c yX6_winningOpenings cX6_winningOpenings 7 (some .long)) (hK : va_K D vwCl (TY C) s) (hA : ∀ q : Nat, s.heap.size ≤ q → A q) (hO : va_P D vwCl ([] : va_W) s.heap) (hN : ∀ q ∈ ([] : va_W), ¬ A q.1) : ∀ (v2 : Int32) (v3 : Int32) (t0 : Int64) (o_n : Int32) (o_made : Int32) (o_own0 : Int64) (o_own1 : Int64) (o_holes : Int32) (o_near : Nat → Int64) (o_hole : Nat → Int32) (o_won : Nat → Int32) (o_lasts : Nat → Int32) (o_power : Nat → Int32), m_X6_winningOpenings_c61 o_game  v2 v3 t0 o_n o_made o_own0 o_own1 o_holes o_near o_hole o_won o_lasts o_power = some o → ∀ (H : Heap) (locs : List Loc), va_P D vwCl (wX6 C a0 a1 a2 a3 a4 a5 a6 a7 a8 a9 a10 a11 a12 a13 a14 a15 o_n o_all o_made o_own0 o_own1 o_threatMany o_length o_holes o_tellings o_game o_near o_kept o_isKept o_threatOf o_threatSet o_text o_far o_back o_hole o_isWon o_won o_lasts o_power o_told) H → va_D A (wX6 C a0 a1 a2 a3 a4 a5 a6 a7 a8 a9 a10 a11 a12 a13 a14 a15 o_n o_all o_made o_own0 o_own1 o_threatMany o_length o_holes o_tellings o_game o_near o_kept o_isKept o_threatOf o_threatSet o_text o_far o_back o_hole o_isWon o_won o_lasts o_power o_told) → va_S A s.heap H locs → ∀ (ls : Array Slot), lv_has ls 7 [(0, .ref a0), (2, .int v2), (3, .int v3)] → W p l e R_X6_winningOpenings s m args below meth c H locs 0 0 (MQ below (QWl D o.1 (wX6 C a0 a1 a2 a3 a4 a5 a6 a7 a8 a9 a10 a11 a12 a13 a14 a15 o.2.1 o_all o.2.2.1 o.2.2.2.1 o.2.2.2.2.1 o_threatMany o_length o.2.2.2.2.2.1 o_tellings o_game o.2.2.2.2.2.2.1 o_kept o_isKept o_threatOf o_threatSet o_text o_far o_back o.2.2.2.2.2.2.2.1 o_isWon o.2.2.2.2.2.2.2.2.1 o.2.2.2.2.2.2.2.2.2.1 o.2.2.2.2.2.2.2.2.2.2 o_told) A) args s 0 0 A) (F0 m 61 ls [.long t0]) := by
  have hx := hc.1
  have hb := hc.2.1
  have hown := hc.2.2.2.2.1
  have hts := hc.2.2.2.2.2.1
  intro v2 v3 t0 o_n o_made o_own0 o_own1 o_holes o_near o_hole o_won o_lasts o_power hf H locs hP hD hS ls hl
  refine lv_lstore (lv' := [(5, .long t0), (0, .ref a0), (2, .int v2), (3, .int v3)]) hx hb dX6_winningOpenings_61 hl (by decide) rfl (fun ls hl => ?_)
  refine lv_aload_n hx hb dX6_winningOpenings_63 rfl (lv_at hl 1 rfl) ?_
  refine lv_iload_n hx hb dX6_winningOpenings_64 rfl (lv_at hl 2 rfl) ?_
  refine va_put (D := D) (ci := 6) (v := .int v2) (ty := .int) (C := RX6) (T := TX6) (N := 24) hx hb hts inX6 tyX6 tyX6_ok nmX6 hown hK hP hD hS 0 rfl rfl 0 (by decide) (hts _ q_654) (fun _ h9 => h9) rfl (by decide +kernel) rfl rfl (Nat.le_of_ble_eq_true rfl) dX6_winningOpenings_65 (fun H locs hP hD hS => ?_)
  have hP : va_P D vwCl (wX6 C a0 a1 a2 a3 a4 a5 a6 a7 a8 a9 a10 a11 a12 a13 a14 a15 v2 o_all o_made o_own0 o_own1 o_threatMany o_length o_holes o_tellings o_game o_near o_kept o_isKept o_threatOf o_threatSet o_text o_far o_back o_hole o_isWon o_won o_lasts o_power o_told) H := hP
  have hD : va_D A (wX6 C a0 a1 a2 a3 a4 a5 a6 a7 a8 a9 a10 a11 a12 a13 a14 a15 v2 o_all o_made o_own0 o_own1 o_threatMany o_length o_holes o_tellings o_game o_near o_kept o_isKept o_threatOf o_threatSet o_text o_far o_back o_hole o_isWon o_won o_lasts o_power o_told) := hD
  refine lv_aload_n hx hb dX6_winningOpenings_68 rfl (lv_at hl 1 rfl) ?_
  refine lv_iload_n hx hb dX6_winningOpenings_69 rfl (lv_at hl 3 rfl) ?_
  refine va_put (D := D) (ci := 6) (v := .int v3) (ty := .int) (C := RX6) (T := TX6) (N := 24) hx hb hts inX6 tyX6 tyX6_ok nmX6 hown hK hP hD hS 0 rfl rfl 3 (by decide) (hts _ q_657) (fun _ h9 => h9) rfl (by decide +kernel) rfl rfl (Nat.le_of_ble_eq_true rfl) dX6_winningOpenings_70 (fun H locs hP hD hS => ?_)
  have hP : va_P D vwCl (wX6 C a0 a1 a2 a3 a4 a5 a6 a7 a8 a9 a10 a11 a12 a13 a14 a15 v2 o_all v3 o_own0 o_own1 o_threatMany o_length o_holes o_tellings o_game o_near o_kept o_isKept o_threatOf o_threatSet o_text o_far o_back o_hole o_isWon o_won o_lasts o_power o_told) H := hP
  have hD : va_D A (wX6 C a0 a1 a2 a3 a4 a5 a6 a7 a8 a9 a10 a11 a12 a13 a14 a15 v2 o_all v3 o_own0 o_own1 o_threatMany o_length o_holes o_tellings o_game o_near o_kept o_isKept o_threatOf o_threatSet o_text o_far o_back o_hole o_isWon o_won o_lasts o_power o_told) := hD
  refine lv_aload_n hx hb dX6_winningOpenings_73 rfl (lv_at hl 1 rfl) ?_
  obtain ⟨u6, hu6, hf⟩ := bind_some hf
  refine wcVv (A := A) (wc := wX6 C a0 a1 a2 a3 a4 a5 a6 a7 a8 a9 a10 a11 a12 a13 a14 a15 v2 o_all v3 o_own0 o_own1 o_threatMany o_length o_holes o_tellings o_game o_near o_kept o_isKept o_threatOf o_threatSet o_text o_far o_back o_hole o_isWon o_won o_lasts o_power o_told) (w1 := wX6 C a0 a1 a2 a3 a4 a5 a6 a7 a8 a9 a10 a11 a12 a13 a14 a15 v2 o_all v3 o_own0 o_own1 o_threatMany o_length o_holes o_tellings o_game u6 o_kept o_isKept o_threatOf o_threatSet o_text o_far o_back o_hole o_isWon o_won o_lasts o_power o_told) (rc := []) (As := []) (rest := []) hc k_X6_61 (c_X6_shapes l D C _ a0 a1 a2 a3 a4 a5 a6 a7 a8 a9 a10 a11 a12 a13 a14 a15 v2 o_all v3 o_own0 o_own1 o_threatMany o_length o_holes o_tellings o_game o_near o_kept o_isKept o_threatOf o_threatSet o_text o_far o_back o_hole o_isWon o_won o_lasts o_power o_told  _ hu6) ⟨rfl, rfl, Nat.le_of_ble_eq_true rfl, Nat.le_of_ble_eq_true rfl⟩ hP hD hS hA hK [0, 1, 2, 3, 4, 5, 6, 7, 8, 9, 10, 11, 12, 13, 14, 15] [] rfl rfl rfl rfl (by decide) (hP.sub [] rfl) Ap_nil (q0 := 0) rfl rfl rfl hl rfl rfl (Nat.le_of_ble_eq_true rfl) ⟨Nat.zero_le _, Nat.zero_le _⟩ dX6_winningOpenings_74 (fun H locs hP hD hS => ?_)
  have hP : va_P D vwCl (wX6 C a0 a1 a2 a3 a4 a5 a6 a7 a8 a9 a10 a11 a12 a13 a14 a15 v2 o_all v3 o_own0 o_own1 o_threatMany o_length o_holes o_tellings o_game u6 o_kept o_isKept o_threatOf o_threatSet o_text o_far o_back o_hole o_isWon o_won o_lasts o_power o_told) H := hP.sub [0, 1, 2, 3, 4, 5, 6, 7, 8, 9, 10, 11, 12, 13, 14, 15] rfl
  have hD : va_D A (wX6 C a0 a1 a2 a3 a4 a5 a6 a7 a8 a9 a10 a11 a12 a13 a14 a15 v2 o_all v3 o_own0 o_own1 o_threatMany o_length o_holes o_tellings o_game u6 o_kept o_isKept o_threatOf o_threatSet o_text o_far o_back o_hole o_isWon o_won o_lasts o_power o_told) := hD.sub [0, 1, 2, 3, 4, 5, 6, 7, 8, 9, 10, 11, 12, 13, 14, 15] rfl rfl
  refine lv_aload_n hx hb dX6_winningOpenings_77 rfl (lv_at hl 1 rfl) ?_
  refine lv_aload_n hx hb dX6_winningOpenings_78 rfl (lv_at hl 1 rfl) ?_
  refine va_get (D := D) (ci := 6) (v := .int v3) (C := RX6) (T := TX6) (N := 24) hx hb hts inX6 hown hK hP 0 rfl rfl 3 (by decide) (hts _ q_657) (fun _ h9 => h9) rfl dX6_winningOpenings_79 ?_
  obtain ⟨u7, hu7, hf⟩ := bind_some hf
  refine wcVv (A := A) (wc := wX6 C a0 a1 a2 a3 a4 a5 a6 a7 a8 a9 a10 a11 a12 a13 a14 a15 v2 o_all v3 o_own0 o_own1 o_threatMany o_length o_holes o_tellings o_game u6 o_kept o_isKept o_threatOf o_threatSet o_text o_far o_back o_hole o_isWon o_won o_lasts o_power o_told) (w1 := wX6 C a0 a1 a2 a3 a4 a5 a6 a7 a8 a9 a10 a11 a12 a13 a14 a15 v2 o_all v3 u7.1 u7.2 o_threatMany o_length o_holes o_tellings o_game u6 o_kept o_isKept o_threatOf o_threatSet o_text o_far o_back o_hole o_isWon o_won o_lasts o_power o_told) (rc := []) (As := [.int v3]) (rest := []) hc k_X6_115 (c_X6_goes l D C _ a0 a1 a2 a3 a4 a5 a6 a7 a8 a9 a10 a11 a12 a13 a14 a15 v2 o_all v3 o_own0 o_own1 o_threatMany o_length o_holes o_tellings o_game u6 o_kept o_isKept o_threatOf o_threatSet o_text o_far o_back o_hole o_isWon o_won o_lasts o_power o_told v3  _ hu7) ⟨rfl, rfl, Nat.le_of_ble_eq_true rfl, Nat.le_of_ble_eq_true rfl⟩ hP hD hS hA hK [0, 1, 2, 3, 4, 5, 6, 7, 8, 9, 10, 11, 12, 13, 14, 15] [] rfl rfl rfl rfl (by decide) (hP.sub [] rfl) Ap_nil (q0 := 0) rfl rfl rfl hl rfl rfl (Nat.le_of_ble_eq_true rfl) ⟨Nat.zero_le _, Nat.zero_le _⟩ dX6_winningOpenings_82 (fun H locs hP hD hS => ?_)
  have hP : va_P D vwCl (wX6 C a0 a1 a2 a3 a4 a5 a6 a7 a8 a9 a10 a11 a12 a13 a14 a15 v2 o_all v3 u7.1 u7.2 o_threatMany o_length o_holes o_tellings o_game u6 o_kept o_isKept o_threatOf o_threatSet o_text o_far o_back o_hole o_isWon o_won o_lasts o_power o_told) H := hP.sub [0, 1, 2, 3, 4, 5, 6, 7, 8, 9, 10, 11, 12, 13, 14, 15] rfl
  have hD : va_D A (wX6 C a0 a1 a2 a3 a4 a5 a6 a7 a8 a9 a10 a11 a12 a13 a14 a15 v2 o_all v3 u7.1 u7.2 o_threatMany o_length o_holes o_tellings o_game u6 o_kept o_isKept o_threatOf o_threatSet o_text o_far o_back o_hole o_isWon o_won o_lasts o_power o_told) := hD.sub [0, 1, 2, 3, 4, 5, 6, 7, 8, 9, 10, 11, 12, 13, 14, 15] rfl rfl
  refine lv_lload hx hb dX6_winningOpenings_85 (lv_at hl 0 rfl) ?_
  have hf := Option.some.inj hf
  subst hf
  exact rWl hc rfl hP hD hS dX6_winningOpenings_87
def m_X6_winningOpenings (o_n : Int32) (o_made : Int32) (o_own0 : Int64) (o_own1 : Int64) (o_holes : Int32) (o_game : Nat → Int32) (o_near : Nat → Int64) (o_hole : Nat → Int32) (o_won : Nat → Int32) (o_lasts : Nat → Int32) (o_power : Nat → Int32) (p1 : Int32) : Option (Int64 × Int32 × Int32 × Int64 × Int64 × Int32 × (Nat → Int64) × (Nat → Int32) × (Nat → Int32) × (Nat → Int32) × (Nat → Int32)) := (if (m_X6_in p1 (2 : Int32) (3 : Int32)) = 0 then some ((-12 : Int64), o_n, o_made, o_own0, o_own1, o_holes, o_near, o_hole, o_won, o_lasts, o_power) else ((m_X6_shapes p1 o_near).bind fun u2 => ((m_X6_goes p1 o_game (0 : Int32)).bind fun u3 => ((m_X6_solves p1 (0 : Int32) u3.1 u3.2 u2 o_hole o_won o_lasts o_power).bind fun u4 => (if u4.1 = 0 then (m_X6_winningOpenings_c61 o_game o_n o_made (0 : Int64) p1 (0 : Int32) u3.1 u3.2 u4.2.1 u2 u4.2.2.1 u4.2.2.2.1 u4.2.2.2.2.1 u4.2.2.2.2.2) else ((m_X6_winning p1 (0 : Int32) u3.1 u3.2 u4.2.1 u2 u4.2.2.2.2.2 u4.2.2.2.1 u4.2.2.1).bind fun u8 => (m_X6_winningOpenings_c61 o_game o_n o_made u8 p1 (0 : Int32) u3.1 u3.2 u4.2.1 u2 u4.2.2.1 u4.2.2.2.1 u4.2.2.2.2.1 u4.2.2.2.2.2)))))))
set_option maxHeartbeats 4000000 in
set_option maxRecDepth 100000 in
theorem c_X6_winningOpenings (l : Launch) (D : va_G) (C : Nat → ClassId) (sz : Nat) (a0 : Nat) (a1 : Nat) (a2 : Nat) (a3 : Nat) (a4 : Nat) (a5 : Nat) (a6 : Nat) (a7 : Nat) (a8 : Nat) (a9 : Nat) (a10 : Nat) (a11 : Nat) (a12 : Nat) (a13 : Nat) (a14 : Nat) (a15 : Nat) (o_n : Int32) (o_all : Int32) (o_made : Int32) (o_own0 : Int64) (o_own1 : Int64) (o_threatMany : Int32) (o_length : Int32) (o_holes : Int32) (o_tellings : Int32) (o_game : Nat → Int32) (o_near : Nat → Int64) (o_kept : Nat → Int32) (o_isKept : Nat → Int32) (o_threatOf : Nat → Int32) (o_threatSet : Nat → Int64) (o_text : Nat → Int32) (o_far : Nat → Int32) (o_back : Nat → Int32) (o_hole : Nat → Int32) (o_isWon : Nat → Int32) (o_won : Nat → Int32) (o_lasts : Nat → Int32) (o_power : Nat → Int32) (o_told : Nat → Int32) (p1 : Int32) (o : Int64 × Int32 × Int32 × Int64 × Int64 × Int32 × (Nat → Int64) × (Nat → Int32) × (Nat → Int32) × (Nat → Int32) × (Nat → Int32)) (hf : m_X6_winningOpenings o_n o_made o_own0 o_own1 o_holes o_game o_near o_hole o_won o_lasts o_power p1 = some o) : Met l yX6_winningOpenings (wl yX6_winningOpenings cX6_winningOpenings 7 (some .long)) R_X6_winningOpenings (PW [.ref a0, .int p1] D C sz (wX6 C a0 a1 a2 a3 a4 a5 a6 a7 a8 a9 a10 a11 a12 a13 a14 a15 o_n o_all o_made o_own0 o_own1 o_threatMany o_length o_holes o_tellings o_game o_near o_kept o_isKept o_threatOf o_threatSet o_text o_far o_back o_hole o_isWon o_won o_lasts o_power o_told) ([] : va_W)) (QWl D o.1 (wX6 C a0 a1 a2 a3 a4 a5 a6 a7 a8 a9 a10 a11 a12 a13 a14 a15 o.2.1 o_all o.2.2.1 o.2.2.2.1 o.2.2.2.2.1 o_threatMany o_length o.2.2.2.2.2.1 o_tellings o_game o.2.2.2.2.2.2.1 o_kept o_isKept o_threatOf o_threatSet o_text o_far o_back o.2.2.2.2.2.2.2.1 o_isWon o.2.2.2.2.2.2.2.2.1 o.2.2.2.2.2.2.2.2.2.1 o.2.2.2.2.2.2.2.2.2.2 o_told) (va_A (wX6 C a0 a1 a2 a3 a4 a5 a6 a7 a8 a9 a10 a11 a12 a13 a14 a15 o_n o_all o_made o_own0 o_own1 o_threatMany o_length o_holes o_tellings o_game o_near o_kept o_isKept o_threatOf o_threatSet o_text o_far o_back o_hole o_isWon o_won o_lasts o_power o_told) sz)) 0 0 (va_A (wX6 C a0 a1 a2 a3 a4 a5 a6 a7 a8 a9 a10 a11 a12 a13 a14 a15 o_n o_all o_made o_own0 o_own1 o_threatMany o_length o_holes o_tellings o_game o_near o_kept o_isKept o_threatOf o_threatSet o_text o_far o_back o_hole o_isWon o_won o_lasts o_power o_told) sz) := by
  refine Met_ofC (by decide) ?_
  intro p e s m args below meth c hc hv
  obtain ⟨rfl, hsz, hP, hK, hD0, hO, hN0⟩ := hv
  subst hsz
  have hD := hD0.self (sz := s.heap.size)
  have hN : ∀ q ∈ ([] : va_W), ¬ va_A (wX6 C a0 a1 a2 a3 a4 a5 a6 a7 a8 a9 a10 a11 a12 a13 a14 a15 o_n o_all o_made o_own0 o_own1 o_threatMany o_length o_holes o_tellings o_game o_near o_kept o_isKept o_threatOf o_threatSet o_text o_far o_back o_hole o_isWon o_won o_lasts o_power o_told) s.heap.size q.1 := hN0
  generalize hAe : va_A (wX6 C a0 a1 a2 a3 a4 a5 a6 a7 a8 a9 a10 a11 a12 a13 a14 a15 o_n o_all o_made o_own0 o_own1 o_threatMany o_length o_holes o_tellings o_game o_near o_kept o_isKept o_threatOf o_threatSet o_text o_far o_back o_hole o_isWon o_won o_lasts o_power o_told) s.heap.size = A at hD hN ⊢
  have hA : ∀ q : Nat, s.heap.size ≤ q → A q := fun q h => by rw [← hAe]; exact Or.inr h
  have hS : va_S A s.heap s.heap [] := va_S.rf
  have hx := hc.1
  have hb := hc.2.1
  have hown := hc.2.2.2.2.1
  have hts := hc.2.2.2.2.2.1
  refine en_F rfl (fun ls hl => ?_)
  have hl : lv_has ls 7 [(0, .ref a0), (1, .int p1)] := hl
  refine lv_iload_n hx hb dX6_winningOpenings_0 rfl (lv_at hl 1 rfl) ?_
  refine lv_iconst (v := (2 : Int32)) hx hb dX6_winningOpenings_1 (by decide) ?_
  refine lv_iconst (v := (3 : Int32)) hx hb dX6_winningOpenings_2 (by decide) ?_
  refine rcSi (As := [.int p1, .int (2 : Int32), .int (3 : Int32)]) (rest := []) hc k_X6_64 (c_X6_in l D C p1 (2 : Int32) (3 : Int32)  _ rfl) ⟨rfl, rfl, Nat.le_of_ble_eq_true rfl, Nat.le_of_ble_eq_true rfl⟩ (hP.sub [] rfl) hK hl rfl rfl (Nat.le_of_ble_eq_true rfl) ⟨Nat.zero_le _, Nat.zero_le _⟩ dX6_winningOpenings_3 ?_
  refine lv_if_ne (tgt := 13) hx hb dX6_winningOpenings_6 (by decide) (fun c1 => ?_) (fun c1 => ?_)
  · have hf := if_f hf c1
    refine lv_aload_n hx hb dX6_winningOpenings_13 rfl (lv_at hl 0 rfl) ?_
    refine va_get (D := D) (ci := 6) (v := .int o_n) (C := RX6) (T := TX6) (N := 24) hx hb hts inX6 hown hK hP 0 rfl rfl 0 (by decide) (hts _ q_654) (fun _ h9 => h9) rfl dX6_winningOpenings_14 ?_
    refine lv_istore_n (lv' := [(2, .int o_n), (0, .ref a0), (1, .int p1)]) hx hb dX6_winningOpenings_17 rfl hl (by decide) rfl (fun ls hl => ?_)
    refine lv_aload_n hx hb dX6_winningOpenings_18 rfl (lv_at hl 1 rfl) ?_
    refine va_get (D := D) (ci := 6) (v := .int o_made) (C := RX6) (T := TX6) (N := 24) hx hb hts inX6 hown hK hP 0 rfl rfl 3 (by decide) (hts _ q_657) (fun _ h9 => h9) rfl dX6_winningOpenings_19 ?_
    refine lv_istore_n (lv' := [(3, .int o_made), (2, .int o_n), (0, .ref a0), (1, .int p1)]) hx hb dX6_winningOpenings_22 rfl hl (by decide) rfl (fun ls hl => ?_)
    refine lv_aload_n hx hb dX6_winningOpenings_23 rfl (lv_at hl 2 rfl) ?_
    refine lv_iload_n hx hb dX6_winningOpenings_24 rfl (lv_at hl 3 rfl) ?_
    refine va_put (D := D) (ci := 6) (v := .int p1) (ty := .int) (C := RX6) (T := TX6) (N := 24) hx hb hts inX6 tyX6 tyX6_ok nmX6 hown hK hP hD hS 0 rfl rfl 0 (by decide) (hts _ q_654) (fun _ h9 => h9) rfl (by decide +kernel) rfl rfl (Nat.le_of_ble_eq_true rfl) dX6_winningOpenings_25 (fun H locs hP hD hS => ?_)
    have hP : va_P D vwCl (wX6 C a0 a1 a2 a3 a4 a5 a6 a7 a8 a9 a10 a11 a12 a13 a14 a15 p1 o_all o_made o_own0 o_own1 o_threatMany o_length o_holes o_tellings o_game o_near o_kept o_isKept o_threatOf o_threatSet o_text o_far o_back o_hole o_isWon o_won o_lasts o_power o_told) H := hP
    have hD : va_D A (wX6 C a0 a1 a2 a3 a4 a5 a6 a7 a8 a9 a10 a11 a12 a13 a14 a15 p1 o_all o_made o_own0 o_own1 o_threatMany o_length o_holes o_tellings o_game o_near o_kept o_isKept o_threatOf o_threatSet o_text o_far o_back o_hole o_isWon o_won o_lasts o_power o_told) := hD
    refine lv_aload_n hx hb dX6_winningOpenings_28 rfl (lv_at hl 2 rfl) ?_
    refine lv_iconst (v := (0 : Int32)) hx hb dX6_winningOpenings_29 (by decide) ?_
    refine va_put (D := D) (ci := 6) (v := .int (0 : Int32)) (ty := .int) (C := RX6) (T := TX6) (N := 24) hx hb hts inX6 tyX6 tyX6_ok nmX6 hown hK hP hD hS 0 rfl rfl 3 (by decide) (hts _ q_657) (fun _ h9 => h9) rfl (by decide +kernel) rfl rfl (Nat.le_of_ble_eq_true rfl) dX6_winningOpenings_30 (fun H locs hP hD hS => ?_)
    have hP : va_P D vwCl (wX6 C a0 a1 a2 a3 a4 a5 a6 a7 a8 a9 a10 a11 a12 a13 a14 a15 p1 o_all (0 : Int32) o_own0 o_own1 o_threatMany o_length o_holes o_tellings o_game o_near o_kept o_isKept o_threatOf o_threatSet o_text o_far o_back o_hole o_isWon o_won o_lasts o_power o_told) H := hP
    have hD : va_D A (wX6 C a0 a1 a2 a3 a4 a5 a6 a7 a8 a9 a10 a11 a12 a13 a14 a15 p1 o_all (0 : Int32) o_own0 o_own1 o_threatMany o_length o_holes o_tellings o_game o_near o_kept o_isKept o_threatOf o_threatSet o_text o_far o_back o_hole o_isWon o_won o_lasts o_power o_told) := hD
    refine lv_aload_n hx hb dX6_winningOpenings_33 rfl (lv_at hl 2 rfl) ?_
    obtain ⟨u2, hu2, hf⟩ := bind_some hf
    refine wcVv (A := A) (wc := wX6 C a0 a1 a2 a3 a4 a5 a6 a7 a8 a9 a10 a11 a12 a13 a14 a15 p1 o_all (0 : Int32) o_own0 o_own1 o_threatMany o_length o_holes o_tellings o_game o_near o_kept o_isKept o_threatOf o_threatSet o_text o_far o_back o_hole o_isWon o_won o_lasts o_power o_told) (w1 := wX6 C a0 a1 a2 a3 a4 a5 a6 a7 a8 a9 a10 a11 a12 a13 a14 a15 p1 o_all (0 : Int32) o_own0 o_own1 o_threatMany o_length o_holes o_tellings o_game u2 o_kept o_isKept o_threatOf o_threatSet o_text o_far o_back o_hole o_isWon o_won o_lasts o_power o_told) (rc := []) (As := []) (rest := []) hc k_X6_61 (c_X6_shapes l D C _ a0 a1 a2 a3 a4 a5 a6 a7 a8 a9 a10 a11 a12 a13 a14 a15 p1 o_all (0 : Int32) o_own0 o_own1 o_threatMany o_length o_holes o_tellings o_game o_near o_kept o_isKept o_threatOf o_threatSet o_text o_far o_back o_hole o_isWon o_won o_lasts o_power o_told  _ hu2) ⟨rfl, rfl, Nat.le_of_ble_eq_true rfl, Nat.le_of_ble_eq_true rfl⟩ hP hD hS hA hK [0, 1, 2, 3, 4, 5, 6, 7, 8, 9, 10, 11, 12, 13, 14, 15] [] rfl rfl rfl rfl (by decide) (hP.sub [] rfl) Ap_nil (q0 := 0) rfl rfl rfl hl rfl rfl (Nat.le_of_ble_eq_true rfl) ⟨Nat.zero_le _, Nat.zero_le _⟩ dX6_winningOpenings_34 (fun H locs hP hD hS => ?_)
    have hP : va_P D vwCl (wX6 C a0 a1 a2 a3 a4 a5 a6 a7 a8 a9 a10 a11 a12 a13 a14 a15 p1 o_all (0 : Int32) o_own0 o_own1 o_threatMany o_length o_holes o_tellings o_game u2 o_kept o_isKept o_threatOf o_threatSet o_text o_far o_back o_hole o_isWon o_won o_lasts o_power o_told) H := hP.sub [0, 1, 2, 3, 4, 5, 6, 7, 8, 9, 10, 11, 12, 13, 14, 15] rfl
    have hD : va_D A (wX6 C a0 a1 a2 a3 a4 a5 a6 a7 a8 a9 a10 a11 a12 a13 a14 a15 p1 o_all (0 : Int32) o_own0 o_own1 o_threatMany o_length o_holes o_tellings o_game u2 o_kept o_isKept o_threatOf o_threatSet o_text o_far o_back o_hole o_isWon o_won o_lasts o_power o_told) := hD.sub [0, 1, 2, 3, 4, 5, 6, 7, 8, 9, 10, 11, 12, 13, 14, 15] rfl rfl
    refine lv_aload_n hx hb dX6_winningOpenings_37 rfl (lv_at hl 2 rfl) ?_
    refine lv_iconst (v := (0 : Int32)) hx hb dX6_winningOpenings_38 (by decide) ?_
    obtain ⟨u3, hu3, hf⟩ := bind_some hf
    refine wcVv (A := A) (wc := wX6 C a0 a1 a2 a3 a4 a5 a6 a7 a8 a9 a10 a11 a12 a13 a14 a15 p1 o_all (0 : Int32) o_own0 o_own1 o_threatMany o_length o_holes o_tellings o_game u2 o_kept o_isKept o_threatOf o_threatSet o_text o_far o_back o_hole o_isWon o_won o_lasts o_power o_told) (w1 := wX6 C a0 a1 a2 a3 a4 a5 a6 a7 a8 a9 a10 a11 a12 a13 a14 a15 p1 o_all (0 : Int32) u3.1 u3.2 o_threatMany o_length o_holes o_tellings o_game u2 o_kept o_isKept o_threatOf o_threatSet o_text o_far o_back o_hole o_isWon o_won o_lasts o_power o_told) (rc := []) (As := [.int (0 : Int32)]) (rest := []) hc k_X6_115 (c_X6_goes l D C _ a0 a1 a2 a3 a4 a5 a6 a7 a8 a9 a10 a11 a12 a13 a14 a15 p1 o_all (0 : Int32) o_own0 o_own1 o_threatMany o_length o_holes o_tellings o_game u2 o_kept o_isKept o_threatOf o_threatSet o_text o_far o_back o_hole o_isWon o_won o_lasts o_power o_told (0 : Int32)  _ hu3) ⟨rfl, rfl, Nat.le_of_ble_eq_true rfl, Nat.le_of_ble_eq_true rfl⟩ hP hD hS hA hK [0, 1, 2, 3, 4, 5, 6, 7, 8, 9, 10, 11, 12, 13, 14, 15] [] rfl rfl rfl rfl (by decide) (hP.sub [] rfl) Ap_nil (q0 := 0) rfl rfl rfl hl rfl rfl (Nat.le_of_ble_eq_true rfl) ⟨Nat.zero_le _, Nat.zero_le _⟩ dX6_winningOpenings_39 (fun H locs hP hD hS => ?_)
    have hP : va_P D vwCl (wX6 C a0 a1 a2 a3 a4 a5 a6 a7 a8 a9 a10 a11 a12 a13 a14 a15 p1 o_all (0 : Int32) u3.1 u3.2 o_threatMany o_length o_holes o_tellings o_game u2 o_kept o_isKept o_threatOf o_threatSet o_text o_far o_back o_hole o_isWon o_won o_lasts o_power o_told) H := hP.sub [0, 1, 2, 3, 4, 5, 6, 7, 8, 9, 10, 11, 12, 13, 14, 15] rfl
    have hD : va_D A (wX6 C a0 a1 a2 a3 a4 a5 a6 a7 a8 a9 a10 a11 a12 a13 a14 a15 p1 o_all (0 : Int32) u3.1 u3.2 o_threatMany o_length o_holes o_tellings o_game u2 o_kept o_isKept o_threatOf o_threatSet o_text o_far o_back o_hole o_isWon o_won o_lasts o_power o_told) := hD.sub [0, 1, 2, 3, 4, 5, 6, 7, 8, 9, 10, 11, 12, 13, 14, 15] rfl rfl
    refine lv_aload_n hx hb dX6_winningOpenings_42 rfl (lv_at hl 2 rfl) ?_
    obtain ⟨u4, hu4, hf⟩ := bind_some hf
    refine wcVi (A := A) (wc := wX6 C a0 a1 a2 a3 a4 a5 a6 a7 a8 a9 a10 a11 a12 a13 a14 a15 p1 o_all (0 : Int32) u3.1 u3.2 o_threatMany o_length o_holes o_tellings o_game u2 o_kept o_isKept o_threatOf o_threatSet o_text o_far o_back o_hole o_isWon o_won o_lasts o_power o_told) (w1 := wX6 C a0 a1 a2 a3 a4 a5 a6 a7 a8 a9 a10 a11 a12 a13 a14 a15 p1 o_all (0 : Int32) u3.1 u3.2 o_threatMany o_length u4.2.1 o_tellings o_game u2 o_kept o_isKept o_threatOf o_threatSet o_text o_far o_back u4.2.2.1 o_isWon u4.2.2.2.1 u4.2.2.2.2.1 u4.2.2.2.2.2 o_told) (rc := []) (As := []) (rest := []) hc k_X6_210 (c_X6_solves l D C _ a0 a1 a2 a3 a4 a5 a6 a7 a8 a9 a10 a11 a12 a13 a14 a15 p1 o_all (0 : Int32) u3.1 u3.2 o_threatMany o_length o_holes o_tellings o_game u2 o_kept o_isKept o_threatOf o_threatSet o_text o_far o_back o_hole o_isWon o_won o_lasts o_power o_told  _ hu4) ⟨rfl, rfl, Nat.le_of_ble_eq_true rfl, Nat.le_of_ble_eq_true rfl⟩ hP hD hS hA hK [0, 1, 2, 3, 4, 5, 6, 7, 8, 9, 10, 11, 12, 13, 14, 15] [] rfl rfl rfl rfl (by decide) (hP.sub [] rfl) Ap_nil (q0 := 0) rfl rfl rfl hl rfl rfl (Nat.le_of_ble_eq_true rfl) ⟨Nat.zero_le _, Nat.zero_le _⟩ dX6_winningOpenings_43 (fun H locs hP hD hS => ?_)
    have hP : va_P D vwCl (wX6 C a0 a1 a2 a3 a4 a5 a6 a7 a8 a9 a10 a11 a12 a13 a14 a15 p1 o_all (0 : Int32) u3.1 u3.2 o_threatMany o_length u4.2.1 o_tellings o_game u2 o_kept o_isKept o_threatOf o_threatSet o_text o_far o_back u4.2.2.1 o_isWon u4.2.2.2.1 u4.2.2.2.2.1 u4.2.2.2.2.2 o_told) H := hP.sub [0, 1, 2, 3, 4, 5, 6, 7, 8, 9, 10, 11, 12, 13, 14, 15] rfl
    have hD : va_D A (wX6 C a0 a1 a2 a3 a4 a5 a6 a7 a8 a9 a10 a11 a12 a13 a14 a15 p1 o_all (0 : Int32) u3.1 u3.2 o_threatMany o_length u4.2.1 o_tellings o_game u2 o_kept o_isKept o_threatOf o_threatSet o_text o_far o_back u4.2.2.1 o_isWon u4.2.2.2.1 u4.2.2.2.2.1 u4.2.2.2.2.2 o_told) := hD.sub [0, 1, 2, 3, 4, 5, 6, 7, 8, 9, 10, 11, 12, 13, 14, 15] rfl rfl
    refine lv_istore (lv' := [(4, .int u4.1), (3, .int o_made), (2, .int o_n), (0, .ref a0), (1, .int p1)]) hx hb dX6_winningOpenings_46 hl (by decide) rfl (fun ls hl => ?_)
    refine lv_iload hx hb dX6_winningOpenings_48 (lv_at hl 0 rfl) ?_
    refine lv_if_eq (tgt := 60) hx hb dX6_winningOpenings_50 (by decide) (fun c5 => ?_) (fun c5 => ?_)
    · have hf := if_t hf c5
      refine lv_lconst (v := (0 : Int64)) hx hb dX6_winningOpenings_60 (by decide) ?_
      exact w_X6_winningOpenings_c61 hc hK hA hO hN  o_n o_made (0 : Int64) p1 (0 : Int32) u3.1 u3.2 u4.2.1 u2 u4.2.2.1 u4.2.2.2.1 u4.2.2.2.2.1 u4.2.2.2.2.2 hf _ _ hP hD hS ls (lv_sub hl [3, 2, 1] rfl)
    · have hf := if_f hf c5
      refine lv_aload_n hx hb dX6_winningOpenings_53 rfl (lv_at hl 3 rfl) ?_
      obtain ⟨u8, hu8, hf⟩ := bind_some hf
      refine rcVl (As := []) (rest := []) hc k_X6_213 (c_X6_winning l D C a0 a2 a14 a12 a10 p1 a1 o_all (0 : Int32) u3.1 u3.2 a3 a4 a5 a6 o_threatMany a7 o_length a8 a9 u4.2.1 a11 a13 a15 o_tellings u2 u4.2.2.2.2.2 u4.2.2.2.1 u4.2.2.1  _ hu8) ⟨rfl, rfl, Nat.le_of_ble_eq_true rfl, Nat.le_of_ble_eq_true rfl⟩ (hP.sub [0, 2, 14, 12, 10] rfl) hK (q0 := 0) rfl rfl rfl hl rfl rfl (Nat.le_of_ble_eq_true rfl) ⟨Nat.zero_le _, Nat.zero_le _⟩ dX6_winningOpenings_54 ?_
      refine lv_goto (tgt := 61) hx hb dX6_winningOpenings_57 (by decide) ?_
      exact w_X6_winningOpenings_c61 hc hK hA hO hN  o_n o_made u8 p1 (0 : Int32) u3.1 u3.2 u4.2.1 u2 u4.2.2.1 u4.2.2.2.1 u4.2.2.2.2.1 u4.2.2.2.2.2 hf _ _ hP hD hS ls (lv_sub hl [3, 2, 1] rfl)
  · have hf := if_t hf c1
    refine lv_ldc2 (v := (-12 : Int64)) hx hb hown (hts _ q_969) dX6_winningOpenings_9 ?_
    have hf := Option.some.inj hf
    subst hf
    exact rWl hc rfl hP hD hS dX6_winningOpenings_12
abbrev R_X6_isPlace : Room := { frames := 1, cells := 0, slots := 0, locals := 22 }
def m_X6_isPlace (o_n : Int32) (p1 : Int32) : Int32 := (m_X6_in p1 (-4 : Int32) ((o_n * o_n) - (1 : Int32)))
set_option maxHeartbeats 4000000 in
set_option maxRecDepth 100000 in
theorem c_X6_isPlace (l : Launch) (D : va_G) (C : Nat → ClassId) (z0 : Nat) (o_n : Int32) (r_o_game : Nat) (o_all : Int32) (o_made : Int32) (o_own0 : Int64) (o_own1 : Int64) (r_o_near : Nat) (r_o_kept : Nat) (r_o_isKept : Nat) (r_o_threatOf : Nat) (r_o_threatSet : Nat) (o_threatMany : Int32) (r_o_text : Nat) (o_length : Int32) (r_o_far : Nat) (r_o_back : Nat) (r_o_hole : Nat) (o_holes : Int32) (r_o_isWon : Nat) (r_o_won : Nat) (r_o_lasts : Nat) (r_o_power : Nat) (r_o_told : Nat) (o_tellings : Int32) (p1 : Int32) (o : Int32) (hf : m_X6_isPlace o_n p1 = o) : Met l yX6_isPlace (wl yX6_isPlace cX6_isPlace 2 (some .boolean)) R_X6_isPlace (PR [.ref z0, .int p1] D C [cX6 z0 o_n r_o_game o_all o_made o_own0 o_own1 r_o_near r_o_kept r_o_isKept r_o_threatOf r_o_threatSet o_threatMany r_o_text o_length r_o_far r_o_back r_o_hole o_holes r_o_isWon r_o_won r_o_lasts r_o_power r_o_told o_tellings]) (vp_Si (fun r => r = o)) 0 0 (fun _ => False) := by
  refine Met_ofC (by decide) ?_
  intro p e s m args below meth c hc hv
  obtain ⟨rfl, hP, hK⟩ := hv
  have hx := hc.1
  have hb := hc.2.1
  have hown := hc.2.2.2.2.1
  have hts := hc.2.2.2.2.2.1
  refine en_F rfl (fun ls hl => ?_)
  have hl : lv_has ls 2 [(0, .ref z0), (1, .int p1)] := hl
  refine lv_iload_n hx hb dX6_isPlace_0 rfl (lv_at hl 1 rfl) ?_
  refine lv_bipush (v := (-4 : Int32)) hx hb dX6_isPlace_1 (by decide) ?_
  refine lv_aload_n hx hb dX6_isPlace_3 rfl (lv_at hl 0 rfl) ?_
  refine va_get (D := D) (ci := 6) (v := .int o_n) (C := RX6) (T := TX6) (N := 24) hx hb hts inX6 hown hK hP 0 rfl rfl 0 (by decide) (hts _ q_654) (fun _ h9 => h9) rfl dX6_isPlace_4 ?_
  refine lv_aload_n hx hb dX6_isPlace_7 rfl (lv_at hl 0 rfl) ?_
  refine va_get (D := D) (ci := 6) (v := .int o_n) (C := RX6) (T := TX6) (N := 24) hx hb hts inX6 hown hK hP 0 rfl rfl 0 (by decide) (hts _ q_654) (fun _ h9 => h9) rfl dX6_isPlace_8 ?_
  refine lv_imul hx hb dX6_isPlace_11 ?_
  refine lv_iconst (v := (1 : Int32)) hx hb dX6_isPlace_12 (by decide) ?_
  refine lv_isub hx hb dX6_isPlace_13 ?_
  refine rcSi (As := [.int p1, .int (-4 : Int32), .int ((o_n * o_n) - (1 : Int32))]) (rest := []) hc k_X6_64 (c_X6_in l D C p1 (-4 : Int32) ((o_n * o_n) - (1 : Int32))  _ rfl) ⟨rfl, rfl, Nat.le_of_ble_eq_true rfl, Nat.le_of_ble_eq_true rfl⟩ (hP.sub [] rfl) hK hl rfl rfl (Nat.le_of_ble_eq_true rfl) ⟨Nat.zero_le _, Nat.zero_le _⟩ dX6_isPlace_14 ?_
  exact rRz hc (by unfold m_X6_in; (repeat' split) <;> rfl) hf dX6_isPlace_17
abbrev R_X6_place : Room := { frames := 1, cells := 0, slots := 0, locals := 25 }
def m_X6_place (o_n : Int32) (p1 : Int32) : Option (Int64) := (if 0 ≤ p1 then some (jshl (1 : Int64) p1) else ((m_X6_edge o_n ((-1 : Int32) - p1)).bind fun u2 => some u2))
set_option maxHeartbeats 4000000 in
set_option maxRecDepth 100000 in
theorem c_X6_place (l : Launch) (D : va_G) (C : Nat → ClassId) (z0 : Nat) (o_n : Int32) (r_o_game : Nat) (o_all : Int32) (o_made : Int32) (o_own0 : Int64) (o_own1 : Int64) (r_o_near : Nat) (r_o_kept : Nat) (r_o_isKept : Nat) (r_o_threatOf : Nat) (r_o_threatSet : Nat) (o_threatMany : Int32) (r_o_text : Nat) (o_length : Int32) (r_o_far : Nat) (r_o_back : Nat) (r_o_hole : Nat) (o_holes : Int32) (r_o_isWon : Nat) (r_o_won : Nat) (r_o_lasts : Nat) (r_o_power : Nat) (r_o_told : Nat) (o_tellings : Int32) (p1 : Int32) (o : Int64) (hf : m_X6_place o_n p1 = some o) : Met l yX6_place (wl yX6_place cX6_place 2 (some .long)) R_X6_place (PR [.ref z0, .int p1] D C [cX6 z0 o_n r_o_game o_all o_made o_own0 o_own1 r_o_near r_o_kept r_o_isKept r_o_threatOf r_o_threatSet o_threatMany r_o_text o_length r_o_far r_o_back r_o_hole o_holes r_o_isWon r_o_won r_o_lasts r_o_power r_o_told o_tellings]) (vp_Sl (fun r => r = o)) 0 0 (fun _ => False) := by
  refine Met_ofC (by decide) ?_
  intro p e s m args below meth c hc hv
  obtain ⟨rfl, hP, hK⟩ := hv
  have hx := hc.1
  have hb := hc.2.1
  have hown := hc.2.2.2.2.1
  have hts := hc.2.2.2.2.2.1
  refine en_F rfl (fun ls hl => ?_)
  have hl : lv_has ls 2 [(0, .ref z0), (1, .int p1)] := hl
  refine lv_iload_n hx hb dX6_place_0 rfl (lv_at hl 1 rfl) ?_
  refine lv_if_ge (tgt := 14) hx hb dX6_place_1 (by decide) (fun c1 => ?_) (fun c1 => ?_)
  · have hf := if_t hf c1
    refine lv_lconst (v := (1 : Int64)) hx hb dX6_place_14 (by decide) ?_
    refine lv_iload_n hx hb dX6_place_15 rfl (lv_at hl 1 rfl) ?_
    refine lv_lshl (v := (jshl (1 : Int64) p1)) hx hb dX6_place_16 rfl ?_
    exact rRl hc (Option.some.inj hf) dX6_place_17
  · have hf := if_f hf c1
    refine lv_aload_n hx hb dX6_place_4 rfl (lv_at hl 0 rfl) ?_
    refine lv_iconst (v := (-1 : Int32)) hx hb dX6_place_5 (by decide) ?_
    refine lv_iload_n hx hb dX6_place_6 rfl (lv_at hl 1 rfl) ?_
    refine lv_isub hx hb dX6_place_7 ?_
    obtain ⟨u2, hu2, hf⟩ := bind_some hf
    refine rcVl (As := [.int ((-1 : Int32) - p1)]) (rest := []) hc k_X6_93 (c_X6_edge l D C z0 o_n r_o_game o_all o_made o_own0 o_own1 r_o_near r_o_kept r_o_isKept r_o_threatOf r_o_threatSet o_threatMany r_o_text o_length r_o_far r_o_back r_o_hole o_holes r_o_isWon r_o_won r_o_lasts r_o_power r_o_told o_tellings ((-1 : Int32) - p1)  _ hu2) ⟨rfl, rfl, Nat.le_of_ble_eq_true rfl, Nat.le_of_ble_eq_true rfl⟩ (hP.sub [0] rfl) hK (q0 := 0) rfl rfl rfl hl rfl rfl (Nat.le_of_ble_eq_true rfl) ⟨Nat.zero_le _, Nat.zero_le _⟩ dX6_place_8 ?_
    refine lv_goto (tgt := 17) hx hb dX6_place_11 (by decide) ?_
    exact rRl hc (Option.some.inj hf) dX6_place_17
abbrev R_X6_arePlaces : Room := { frames := 2, cells := 0, slots := 0, locals := 43 }
def m_X6_arePlaces (o_n : Int32) (p1 : Int32) (p2 : Int32) (p3 : Int32) : Int32 := (if (m_X6_isPlayer p1) = 0 then (0 : Int32) else (if (m_X6_isPlace o_n p2) = 0 then (0 : Int32) else (if (m_X6_isPlace o_n p3) = 0 then (0 : Int32) else (if p2 = p3 then (0 : Int32) else (1 : Int32)))))
set_option maxHeartbeats 4000000 in
set_option maxRecDepth 100000 in
theorem c_X6_arePlaces (l : Launch) (D : va_G) (C : Nat → ClassId) (z0 : Nat) (o_n : Int32) (r_o_game : Nat) (o_all : Int32) (o_made : Int32) (o_own0 : Int64) (o_own1 : Int64) (r_o_near : Nat) (r_o_kept : Nat) (r_o_isKept : Nat) (r_o_threatOf : Nat) (r_o_threatSet : Nat) (o_threatMany : Int32) (r_o_text : Nat) (o_length : Int32) (r_o_far : Nat) (r_o_back : Nat) (r_o_hole : Nat) (o_holes : Int32) (r_o_isWon : Nat) (r_o_won : Nat) (r_o_lasts : Nat) (r_o_power : Nat) (r_o_told : Nat) (o_tellings : Int32) (p1 : Int32) (p2 : Int32) (p3 : Int32) (o : Int32) (hf : m_X6_arePlaces o_n p1 p2 p3 = o) : Met l yX6_arePlaces (wl yX6_arePlaces cX6_arePlaces 4 (some .boolean)) R_X6_arePlaces (PR [.ref z0, .int p1, .int p2, .int p3] D C [cX6 z0 o_n r_o_game o_all o_made o_own0 o_own1 r_o_near r_o_kept r_o_isKept r_o_threatOf r_o_threatSet o_threatMany r_o_text o_length r_o_far r_o_back r_o_hole o_holes r_o_isWon r_o_won r_o_lasts r_o_power r_o_told o_tellings]) (vp_Si (fun r => r = o)) 0 0 (fun _ => False) := by
  refine Met_ofC (by decide) ?_
  intro p e s m args below meth c hc hv
  obtain ⟨rfl, hP, hK⟩ := hv
  have hx := hc.1
  have hb := hc.2.1
  have hown := hc.2.2.2.2.1
  have hts := hc.2.2.2.2.2.1
  refine en_F rfl (fun ls hl => ?_)
  have hl : lv_has ls 4 [(0, .ref z0), (1, .int p1), (2, .int p2), (3, .int p3)] := hl
  refine lv_iload_n hx hb dX6_arePlaces_0 rfl (lv_at hl 1 rfl) ?_
  refine rcSi (As := [.int p1]) (rest := []) hc k_X6_136 (c_X6_isPlayer l D C p1  _ rfl) ⟨rfl, rfl, Nat.le_of_ble_eq_true rfl, Nat.le_of_ble_eq_true rfl⟩ (hP.sub [] rfl) hK hl rfl rfl (Nat.le_of_ble_eq_true rfl) ⟨Nat.zero_le _, Nat.zero_le _⟩ dX6_arePlaces_1 ?_
  refine lv_if_eq (tgt := 32) hx hb dX6_arePlaces_4 (by decide) (fun c1 => ?_) (fun c1 => ?_)
  · have hf := if_t hf c1
    refine lv_iconst (v := (0 : Int32)) hx hb dX6_arePlaces_32 (by decide) ?_
    exact rRz hc rfl hf dX6_arePlaces_33
  · have hf := if_f hf c1
    refine lv_aload_n hx hb dX6_arePlaces_7 rfl (lv_at hl 0 rfl) ?_
    refine lv_iload_n hx hb dX6_arePlaces_8 rfl (lv_at hl 2 rfl) ?_
    refine rcVi (As := [.int p2]) (rest := []) hc k_X6_218 (c_X6_isPlace l D C z0 o_n r_o_game o_all o_made o_own0 o_own1 r_o_near r_o_kept r_o_isKept r_o_threatOf r_o_threatSet o_threatMany r_o_text o_length r_o_far r_o_back r_o_hole o_holes r_o_isWon r_o_won r_o_lasts r_o_power r_o_told o_tellings p2  _ rfl) ⟨rfl, rfl, Nat.le_of_ble_eq_true rfl, Nat.le_of_ble_eq_true rfl⟩ (hP.sub [0] rfl) hK (q0 := 0) rfl rfl rfl hl rfl rfl (Nat.le_of_ble_eq_true rfl) ⟨Nat.zero_le _, Nat.zero_le _⟩ dX6_arePlaces_9 ?_
    refine lv_if_eq (tgt := 32) hx hb dX6_arePlaces_12 (by decide) (fun c2 => ?_) (fun c2 => ?_)
    · have hf := if_t hf c2
      refine lv_iconst (v := (0 : Int32)) hx hb dX6_arePlaces_32 (by decide) ?_
      exact rRz hc rfl hf dX6_arePlaces_33
    · have hf := if_f hf c2
      refine lv_aload_n hx hb dX6_arePlaces_15 rfl (lv_at hl 0 rfl) ?_
      refine lv_iload_n hx hb dX6_arePlaces_16 rfl (lv_at hl 3 rfl) ?_
      refine rcVi (As := [.int p3]) (rest := []) hc k_X6_218 (c_X6_isPlace l D C z0 o_n r_o_game o_all o_made o_own0 o_own1 r_o_near r_o_kept r_o_isKept r_o_threatOf r_o_threatSet o_threatMany r_o_text o_length r_o_far r_o_back r_o_hole o_holes r_o_isWon r_o_won r_o_lasts r_o_power r_o_told o_tellings p3  _ rfl) ⟨rfl, rfl, Nat.le_of_ble_eq_true rfl, Nat.le_of_ble_eq_true rfl⟩ (hP.sub [0] rfl) hK (q0 := 0) rfl rfl rfl hl rfl rfl (Nat.le_of_ble_eq_true rfl) ⟨Nat.zero_le _, Nat.zero_le _⟩ dX6_arePlaces_17 ?_
      refine lv_if_eq (tgt := 32) hx hb dX6_arePlaces_20 (by decide) (fun c3 => ?_) (fun c3 => ?_)
      · have hf := if_t hf c3
        refine lv_iconst (v := (0 : Int32)) hx hb dX6_arePlaces_32 (by decide) ?_
        exact rRz hc rfl hf dX6_arePlaces_33
      · have hf := if_f hf c3
        refine lv_iload_n hx hb dX6_arePlaces_23 rfl (lv_at hl 2 rfl) ?_
        refine lv_iload_n hx hb dX6_arePlaces_24 rfl (lv_at hl 3 rfl) ?_
        refine lv_icmp_eq (tgt := 32) hx hb dX6_arePlaces_25 (by decide) (fun c4 => ?_) (fun c4 => ?_)
        · have hf := if_t hf c4
          refine lv_iconst (v := (0 : Int32)) hx hb dX6_arePlaces_32 (by decide) ?_
          exact rRz hc rfl hf dX6_arePlaces_33
        · have hf := if_f hf c4
          refine lv_iconst (v := (1 : Int32)) hx hb dX6_arePlaces_28 (by decide) ?_
          refine lv_goto (tgt := 33) hx hb dX6_arePlaces_29 (by decide) ?_
          exact rRz hc rfl hf dX6_arePlaces_33
abbrev R_X6_isRegion : Room := { frames := 2, cells := 0, slots := 0, locals := 40 }
def m_X6_isRegion (o_n : Int32) (o_own0 : Int64) (o_own1 : Int64) (p1 : Int64) (p2 : Int32) : Option (Int32) := (if (p1 &&& ((m_X6_free o_n o_own0 o_own1) ^^^ (-1 : Int64))) = (0 : Int64) then ((m_X6_size p1).bind fun u2 => (if p2 < u2 then some (0 : Int32) else some (1 : Int32))) else some (0 : Int32))
set_option maxHeartbeats 4000000 in
set_option maxRecDepth 100000 in
theorem c_X6_isRegion (l : Launch) (D : va_G) (C : Nat → ClassId) (z0 : Nat) (o_n : Int32) (r_o_game : Nat) (o_all : Int32) (o_made : Int32) (o_own0 : Int64) (o_own1 : Int64) (r_o_near : Nat) (r_o_kept : Nat) (r_o_isKept : Nat) (r_o_threatOf : Nat) (r_o_threatSet : Nat) (o_threatMany : Int32) (r_o_text : Nat) (o_length : Int32) (r_o_far : Nat) (r_o_back : Nat) (r_o_hole : Nat) (o_holes : Int32) (r_o_isWon : Nat) (r_o_won : Nat) (r_o_lasts : Nat) (r_o_power : Nat) (r_o_told : Nat) (o_tellings : Int32) (p1 : Int64) (p2 : Int32) (o : Int32) (hf : m_X6_isRegion o_n o_own0 o_own1 p1 p2 = some o) : Met l yX6_isRegion (wl yX6_isRegion cX6_isRegion 4 (some .boolean)) R_X6_isRegion (PR [.ref z0, .long p1, .int p2] D C [cX6 z0 o_n r_o_game o_all o_made o_own0 o_own1 r_o_near r_o_kept r_o_isKept r_o_threatOf r_o_threatSet o_threatMany r_o_text o_length r_o_far r_o_back r_o_hole o_holes r_o_isWon r_o_won r_o_lasts r_o_power r_o_told o_tellings]) (vp_Si (fun r => r = o)) 0 0 (fun _ => False) := by
  refine Met_ofC (by decide) ?_
  intro p e s m args below meth c hc hv
  obtain ⟨rfl, hP, hK⟩ := hv
  have hx := hc.1
  have hb := hc.2.1
  have hown := hc.2.2.2.2.1
  have hts := hc.2.2.2.2.2.1
  refine en_F rfl (fun ls hl => ?_)
  have hl : lv_has ls 4 [(0, .ref z0), (1, .long p1), (3, .int p2)] := hl
  refine lv_lload_n hx hb dX6_isRegion_0 rfl (lv_at hl 1 rfl) ?_
  refine lv_aload_n hx hb dX6_isRegion_1 rfl (lv_at hl 0 rfl) ?_
  refine rcVl (As := []) (rest := [.long p1]) hc k_X6_126 (c_X6_free l D C z0 o_n r_o_game o_all o_made o_own0 o_own1 r_o_near r_o_kept r_o_isKept r_o_threatOf r_o_threatSet o_threatMany r_o_text o_length r_o_far r_o_back r_o_hole o_holes r_o_isWon r_o_won r_o_lasts r_o_power r_o_told o_tellings  _ rfl) ⟨rfl, rfl, Nat.le_of_ble_eq_true rfl, Nat.le_of_ble_eq_true rfl⟩ (hP.sub [0] rfl) hK (q0 := 0) rfl rfl rfl hl rfl rfl (Nat.le_of_ble_eq_true rfl) ⟨Nat.zero_le _, Nat.zero_le _⟩ dX6_isRegion_2 ?_
  refine lv_ldc2 (v := (-1 : Int64)) hx hb hown (hts _ q_760) dX6_isRegion_5 ?_
  refine lv_lxor hx hb dX6_isRegion_8 ?_
  refine lv_land hx hb dX6_isRegion_9 ?_
  refine lv_lconst (v := (0 : Int64)) hx hb dX6_isRegion_10 (by decide) ?_
  refine lc_ne (tgt := 27) hx hb dX6_isRegion_11 dX6_isRegion_12 (by decide) (fun c1 => ?_) (fun c1 => ?_)
  · have hf := if_f hf c1
    refine lv_iconst (v := (0 : Int32)) hx hb dX6_isRegion_27 (by decide) ?_
    exact rRz hc rfl (Option.some.inj hf) dX6_isRegion_28
  · have hf := if_t hf c1
    refine lv_lload_n hx hb dX6_isRegion_15 rfl (lv_at hl 1 rfl) ?_
    obtain ⟨u2, hu2, hf⟩ := bind_some hf
    refine rcSi (As := [.long p1]) (rest := []) hc k_X6_164 (c_X6_size l D C p1  _ hu2) ⟨rfl, rfl, Nat.le_of_ble_eq_true rfl, Nat.le_of_ble_eq_true rfl⟩ (hP.sub [] rfl) hK hl rfl rfl (Nat.le_of_ble_eq_true rfl) ⟨Nat.zero_le _, Nat.zero_le _⟩ dX6_isRegion_16 ?_
    refine lv_iload_n hx hb dX6_isRegion_19 rfl (lv_at hl 2 rfl) ?_
    refine lv_icmp_gt (tgt := 27) hx hb dX6_isRegion_20 (by decide) (fun c3 => ?_) (fun c3 => ?_)
    · have hf := if_t hf c3
      refine lv_iconst (v := (0 : Int32)) hx hb dX6_isRegion_27 (by decide) ?_
      exact rRz hc rfl (Option.some.inj hf) dX6_isRegion_28
    · have hf := if_f hf c3
      refine lv_iconst (v := (1 : Int32)) hx hb dX6_isRegion_23 (by decide) ?_
      refine lv_goto (tgt := 28) hx hb dX6_isRegion_24 (by decide) ?_
      exact rRz hc rfl (Option.some.inj hf) dX6_isRegion_28
abbrev R_X6_connects : Room := { frames := 3, cells := 0, slots := 0, locals := 75 }
def m_X6_connects_c102  (k23 : Int32 → Int32 → (Nat → Int32) → (Nat → Int32) → (Nat → Int32) → (Nat → Int32) → Option (Int32 × Int32 × (Nat → Int32) × (Nat → Int32) × (Nat → Int32) × (Nat → Int32))) (v7 : Int32) (o_holes : Int32) (o_hole : Nat → Int32) (o_won : Nat → Int32) (o_lasts : Nat → Int32) (o_power : Nat → Int32) : Option (Int32 × Int32 × (Nat → Int32) × (Nat → Int32) × (Nat → Int32) × (Nat → Int32)) := (k23 (v7 + (-1 : Int32)) o_holes o_hole o_won o_lasts o_power)
set_option maxHeartbeats 4000000 in
set_option maxRecDepth 100000 in
theorem w_X6_connects_c102 {p : Program} {l : Launch} {e : Env} {s : State} {m : MethodId} {args : Array Value} {below : List Frame} {meth : Method} {c : Code} {D : va_G} {C : Nat → ClassId} {A : Nat → Prop} {a0 : Nat} {a1 : Nat} {a2 : Nat} {a3 : Nat} {a4 : Nat} {a5 : Nat} {a6 : Nat} {a7 : Nat} {a8 : Nat} {a9 : Nat} {a10 : Nat} {a11 : Nat} {a12 : Nat} {a13 : Nat} {a14 : Nat} {a15 : Nat} {o_n : Int32} {o_all : Int32} {o_made : Int32} {o_own0 : Int64} {o_own1 : Int64} {o_threatMany : Int32} {o_length : Int32} {o_tellings : Int32} {o_game : Nat → Int32} {o_near : Nat → Int64} {o_kept : Nat → Int32} {o_isKept : Nat → Int32} {o_threatOf : Nat → Int32} {o_threatSet : Nat → Int64} {o_text : Nat → Int32} {o_far : Nat → Int32} {o_back : Nat → Int32} {o_isWon : Nat → Int32} {o_told : Nat → Int32} {p1 : Int32} {p2 : Int32} {p3 : Int32} {p5 : Int32} {o : Int32 × Int32 × (Nat → Int32) × (Nat → Int32) × (Nat → Int32) × (Nat → Int32)} (hc : Cx p s m args meth c yX6_connects cX6_connects 9 (some .boolean)) (hK : va_K D vwCl (TY C) s) (hA : ∀ q : Nat, s.heap.size ≤ q → A q) (hO : va_P D vwCl ([] : va_W) s.heap) (hN : ∀ q ∈ ([] : va_W), ¬ A q.1) (k23 : Int32 → Int32 → (Nat → Int32) → (Nat → Int32) → (Nat → Int32) → (Nat → Int32) → Option (Int32 × Int32 × (Nat → Int32) × (Nat → Int32) × (Nat → Int32) × (Nat → Int32))) (hk23 : ∀ (v7 : Int32) (o_holes : Int32) (o_hole : Nat → Int32) (o_won : Nat → Int32) (o_lasts : Nat → Int32) (o_power : Nat → Int32), k23 v7 o_holes o_hole o_won o_lasts o_power = some o → ∀ (H : Heap) (locs : List Loc), va_P D vwCl (wX6 C a0 a1 a2 a3 a4 a5 a6 a7 a8 a9 a10 a11 a12 a13 a14 a15 o_n o_all o_made o_own0 o_own1 o_threatMany o_length o_holes o_tellings o_game o_near o_kept o_isKept o_threatOf o_threatSet o_text o_far o_back o_hole o_isWon o_won o_lasts o_power o_told) H → va_D A (wX6 C a0 a1 a2 a3 a4 a5 a6 a7 a8 a9 a10 a11 a12 a13 a14 a15 o_n o_all o_made o_own0 o_own1 o_threatMany o_length o_holes o_tellings o_game o_near o_kept o_isKept o_threatOf o_threatSet o_text o_far o_back o_hole o_isWon o_won o_lasts o_power o_told) → va_S A s.heap H locs → ∀ (ls : Array Slot), lv_has ls 9 [(0, .ref a0), (1, .int p1), (2, .int p2), (3, .int p3), (6, .int p5), (7, .int v7)] → W p l e R_X6_connects s m args below meth c H locs 0 0 (MQ below (QWi D o.1 (wX6 C a0 a1 a2 a3 a4 a5 a6 a7 a8 a9 a10 a11 a12 a13 a14 a15 o_n o_all o_made o_own0 o_own1 o_threatMany o_length o.2.1 o_tellings o_game o_near o_kept o_isKept o_threatOf o_threatSet o_text o_far o_back o.2.2.1 o_isWon o.2.2.2.1 o.2.2.2.2.1 o.2.2.2.2.2 o_told) A) args s 0 0 A) (F0 m 23 ls [])) : ∀ (v7 : Int32) (o_holes : Int32) (o_hole : Nat → Int32) (o_won : Nat → Int32) (o_lasts : Nat → Int32) (o_power : Nat → Int32), m_X6_connects_c102  k23 v7 o_holes o_hole o_won o_lasts o_power = some o → ∀ (H : Heap) (locs : List Loc), va_P D vwCl (wX6 C a0 a1 a2 a3 a4 a5 a6 a7 a8 a9 a10 a11 a12 a13 a14 a15 o_n o_all o_made o_own0 o_own1 o_threatMany o_length o_holes o_tellings o_game o_near o_kept o_isKept o_threatOf o_threatSet o_text o_far o_back o_hole o_isWon o_won o_lasts o_power o_told) H → va_D A (wX6 C a0 a1 a2 a3 a4 a5 a6 a7 a8 a9 a10 a11 a12 a13 a14 a15 o_n o_all o_made o_own0 o_own1 o_threatMany o_length o_holes o_tellings o_game o_near o_kept o_isKept o_threatOf o_threatSet o_text o_far o_back o_hole o_isWon o_won o_lasts o_power o_told) → va_S A s.heap H locs → ∀ (ls : Array Slot), lv_has ls 9 [(0, .ref a0), (1, .int p1), (2, .int p2), (3, .int p3), (6, .int p5), (7, .int v7)] → W p l e R_X6_connects s m args below meth c H locs 0 0 (MQ below (QWi D o.1 (wX6 C a0 a1 a2 a3 a4 a5 a6 a7 a8 a9 a10 a11 a12 a13 a14 a15 o_n o_all o_made o_own0 o_own1 o_threatMany o_length o.2.1 o_tellings o_game o_near o_kept o_isKept o_threatOf o_threatSet o_text o_far o_back o.2.2.1 o_isWon o.2.2.2.1 o.2.2.2.2.1 o.2.2.2.2.2 o_told) A) args s 0 0 A) (F0 m 102 ls []) := by
  have hx := hc.1
  have hb := hc.2.1
  have hown := hc.2.2.2.2.1
  have hts := hc.2.2.2.2.2.1
  intro v7 o_holes o_hole o_won o_lasts o_power hf H locs hP hD hS ls hl
  refine lv_iinc (v := (v7 + (-1 : Int32))) (lv' := [(7, .int (v7 + (-1 : Int32))), (0, .ref a0), (1, .int p1), (2, .int p2), (3, .int p3), (6, .int p5)]) hx hb dX6_connects_102 hl (k := 5) rfl rfl (by decide) rfl (fun ls hl => ?_)
  refine lv_goto (tgt := 23) hx hb dX6_connects_105 (by decide) ?_
  exact hk23 (v7 + (-1 : Int32)) o_holes o_hole o_won o_lasts o_power hf _ _ hP hD hS ls (lv_sub hl [1, 2, 3, 4, 5, 0] rfl)
def m_X6_connects_c85  (k23 : Int32 → Int32 → (Nat → Int32) → (Nat → Int32) → (Nat → Int32) → (Nat → Int32) → Option (Int32 × Int32 × (Nat → Int32) × (Nat → Int32) × (Nat → Int32) × (Nat → Int32))) (v7 : Int32) (t0 : Int32) (t1 : Int32) (o_holes : Int32) (o_hole : Nat → Int32) (o_won : Nat → Int32) (o_lasts : Nat → Int32) (o_power : Nat → Int32) : Option (Int32 × Int32 × (Nat → Int32) × (Nat → Int32) × (Nat → Int32) × (Nat → Int32)) := (if okI t1 19683 = true then (m_X6_connects_c102 k23 v7 o_holes o_hole (upd o_won t1.toNatClampNeg t0) o_lasts o_power) else none)
set_option maxHeartbeats 4000000 in
set_option maxRecDepth 100000 in
theorem w_X6_connects_c85 {p : Program} {l : Launch} {e : Env} {s : State} {m : MethodId} {args : Array Value} {below : List Frame} {meth : Method} {c : Code} {D : va_G} {C : Nat → ClassId} {A : Nat → Prop} {a0 : Nat} {a1 : Nat} {a2 : Nat} {a3 : Nat} {a4 : Nat} {a5 : Nat} {a6 : Nat} {a7 : Nat} {a8 : Nat} {a9 : Nat} {a10 : Nat} {a11 : Nat} {a12 : Nat} {a13 : Nat} {a14 : Nat} {a15 : Nat} {o_n : Int32} {o_all : Int32} {o_made : Int32} {o_own0 : Int64} {o_own1 : Int64} {o_threatMany : Int32} {o_length : Int32} {o_tellings : Int32} {o_game : Nat → Int32} {o_near : Nat → Int64} {o_kept : Nat → Int32} {o_isKept : Nat → Int32} {o_threatOf : Nat → Int32} {o_threatSet : Nat → Int64} {o_text : Nat → Int32} {o_far : Nat → Int32} {o_back : Nat → Int32} {o_isWon : Nat → Int32} {o_told : Nat → Int32} {p1 : Int32} {p2 : Int32} {p3 : Int32} {p5 : Int32} {o : Int32 × Int32 × (Nat → Int32) × (Nat → Int32) × (Nat → Int32) × (Nat → Int32)} (hc : Cx p s m args meth c yX6_connects cX6_connects 9 (some .boolean)) (hK : va_K D vwCl (TY C) s) (hA : ∀ q : Nat, s.heap.size ≤ q → A q) (hO : va_P D vwCl ([] : va_W) s.heap) (hN : ∀ q ∈ ([] : va_W), ¬ A q.1) (k23 : Int32 → Int32 → (Nat → Int32) → (Nat → Int32) → (Nat → Int32) → (Nat → Int32) → Option (Int32 × Int32 × (Nat → Int32) × (Nat → Int32) × (Nat → Int32) × (Nat → Int32))) (hk23 : ∀ (v7 : Int32) (o_holes : Int32) (o_hole : Nat → Int32) (o_won : Nat → Int32) (o_lasts : Nat → Int32) (o_power : Nat → Int32), k23 v7 o_holes o_hole o_won o_lasts o_power = some o → ∀ (H : Heap) (locs : List Loc), va_P D vwCl (wX6 C a0 a1 a2 a3 a4 a5 a6 a7 a8 a9 a10 a11 a12 a13 a14 a15 o_n o_all o_made o_own0 o_own1 o_threatMany o_length o_holes o_tellings o_game o_near o_kept o_isKept o_threatOf o_threatSet o_text o_far o_back o_hole o_isWon o_won o_lasts o_power o_told) H → va_D A (wX6 C a0 a1 a2 a3 a4 a5 a6 a7 a8 a9 a10 a11 a12 a13 a14 a15 o_n o_all o_made o_own0 o_own1 o_threatMany o_length o_holes o_tellings o_game o_near o_kept o_isKept o_threatOf o_threatSet o_text o_far o_back o_hole o_isWon o_won o_lasts o_power o_told) → va_S A s.heap H locs → ∀ (ls : Array Slot), lv_has ls 9 [(0, .ref a0), (1, .int p1), (2, .int p2), (3, .int p3), (6, .int p5), (7, .int v7)] → W p l e R_X6_connects s m args below meth c H locs 0 0 (MQ below (QWi D o.1 (wX6 C a0 a1 a2 a3 a4 a5 a6 a7 a8 a9 a10 a11 a12 a13 a14 a15 o_n o_all o_made o_own0 o_own1 o_threatMany o_length o.2.1 o_tellings o_game o_near o_kept o_isKept o_threatOf o_threatSet o_text o_far o_back o.2.2.1 o_isWon o.2.2.2.1 o.2.2.2.2.1 o.2.2.2.2.2 o_told) A) args s 0 0 A) (F0 m 23 ls [])) : ∀ (v7 : Int32) (t0 : Int32) (t1 : Int32) (o_holes : Int32) (o_hole : Nat → Int32) (o_won : Nat → Int32) (o_lasts : Nat → Int32) (o_power : Nat → Int32), m_X6_connects_c85  k23 v7 t0 t1 o_holes o_hole o_won o_lasts o_power = some o → ∀ (H : Heap) (locs : List Loc), va_P D vwCl (wX6 C a0 a1 a2 a3 a4 a5 a6 a7 a8 a9 a10 a11 a12 a13 a14 a15 o_n o_all o_made o_own0 o_own1 o_threatMany o_length o_holes o_tellings o_game o_near o_kept o_isKept o_threatOf o_threatSet o_text o_far o_back o_hole o_isWon o_won o_lasts o_power o_told) H → va_D A (wX6 C a0 a1 a2 a3 a4 a5 a6 a7 a8 a9 a10 a11 a12 a13 a14 a15 o_n o_all o_made o_own0 o_own1 o_threatMany o_length o_holes o_tellings o_game o_near o_kept o_isKept o_threatOf o_threatSet o_text o_far o_back o_hole o_isWon o_won o_lasts o_power o_told) → va_S A s.heap H locs → ∀ (ls : Array Slot), lv_has ls 9 [(0, .ref a0), (1, .int p1), (2, .int p2), (3, .int p3), (6, .int p5), (7, .int v7)] → W p l e R_X6_connects s m args below meth c H locs 0 0 (MQ below (QWi D o.1 (wX6 C a0 a1 a2 a3 a4 a5 a6 a7 a8 a9 a10 a11 a12 a13 a14 a15 o_n o_all o_made o_own0 o_own1 o_threatMany o_length o.2.1 o_tellings o_game o_near o_kept o_isKept o_threatOf o_threatSet o_text o_far o_back o.2.2.1 o_isWon o.2.2.2.1 o.2.2.2.2.1 o.2.2.2.2.2 o_told) A) args s 0 0 A) (F0 m 85 ls [.int t0, .int t1, .ref a12]) := by
  have hx := hc.1
  have hb := hc.2.1
  have hown := hc.2.2.2.2.1
  have hts := hc.2.2.2.2.2.1
  intro v7 t0 t1 o_holes o_hole o_won o_lasts o_power hf H locs hP hD hS ls hl
  obtain ⟨h14, hf⟩ := ok_t hf
  refine va_iast hx hb hK hP hD hS 12 0 rfl rfl (okI_in h14) dX6_connects_85 (fun H locs hP hD hS => ?_)
  have hP : va_P D vwCl (wX6 C a0 a1 a2 a3 a4 a5 a6 a7 a8 a9 a10 a11 a12 a13 a14 a15 o_n o_all o_made o_own0 o_own1 o_threatMany o_length o_holes o_tellings o_game o_near o_kept o_isKept o_threatOf o_threatSet o_text o_far o_back o_hole o_isWon (upd o_won t1.toNatClampNeg t0) o_lasts o_power o_told) H := hP
  have hD : va_D A (wX6 C a0 a1 a2 a3 a4 a5 a6 a7 a8 a9 a10 a11 a12 a13 a14 a15 o_n o_all o_made o_own0 o_own1 o_threatMany o_length o_holes o_tellings o_game o_near o_kept o_isKept o_threatOf o_threatSet o_text o_far o_back o_hole o_isWon (upd o_won t1.toNatClampNeg t0) o_lasts o_power o_told) := hD
  refine lv_goto (tgt := 102) hx hb dX6_connects_86 (by decide) ?_
  exact w_X6_connects_c102 hc hK hA hO hN k23 hk23 v7 o_holes o_hole (upd o_won t1.toNatClampNeg t0) o_lasts o_power hf _ _ hP hD hS ls (lv_sub hl [0, 1, 2, 3, 4, 5] rfl)
def m_X6_connects_c23 (o_n : Int32) (o_own0 : Int64) (o_own1 : Int64) (o_near : Nat → Int64) (p1 : Int32) (p2 : Int32) (p3 : Int32) (p5 : Int32)  : Nat → Int32 → Int32 → (Nat → Int32) → (Nat → Int32) → (Nat → Int32) → (Nat → Int32) → Option (Int32 × Int32 × (Nat → Int32) × (Nat → Int32) × (Nat → Int32) × (Nat → Int32))
  | 0, _, _, _, _, _, _ => none
  | n + 1, v7, o_holes, o_hole, o_won, o_lasts, o_power => (if v7 < 0 then (if (o_won (0 : Int32).toNatClampNeg) = p1 then some ((1 : Int32), o_holes, o_hole, o_won, o_lasts, o_power) else some ((0 : Int32), o_holes, o_hole, o_won, o_lasts, o_power)) else ((m_X6_laidMany o_holes o_power v7).bind fun u6 => (if u6 = o_holes then ((m_X6_place o_n p2).bind fun u9 => ((m_X6_laid o_own0 o_own1 o_holes o_power o_hole v7 p1).bind fun u10 => ((m_X6_reach o_n o_near u9 u10).bind fun u11 => ((m_X6_place o_n p3).bind fun u12 => (if (u11 &&& u12) = (0 : Int64) then (m_X6_connects_c85 (m_X6_connects_c23 o_n o_own0 o_own1 o_near p1 p2 p3 p5  n) v7 ((1 : Int32) - p1) v7 o_holes o_hole o_won o_lasts o_power) else (m_X6_connects_c85 (m_X6_connects_c23 o_n o_own0 o_own1 o_near p1 p2 p3 p5  n) v7 p1 v7 o_holes o_hole o_won o_lasts o_power)))))) else ((m_X6_decides o_holes o_won o_lasts o_power v7 (jirem (p5 + u6) (2 : Int32))).bind fun u8 => (m_X6_connects_c102 (m_X6_connects_c23 o_n o_own0 o_own1 o_near p1 p2 p3 p5  n) v7 o_holes o_hole u8.1 u8.2 o_power)))))
set_option maxHeartbeats 4000000 in
set_option maxRecDepth 100000 in
theorem w_X6_connects_c23 {p : Program} {l : Launch} {e : Env} {s : State} {m : MethodId} {args : Array Value} {below : List Frame} {meth : Method} {c : Code} {D : va_G} {C : Nat → ClassId} {A : Nat → Prop} {a0 : Nat} {a1 : Nat} {a2 : Nat} {a3 : Nat} {a4 : Nat} {a5 : Nat} {a6 : Nat} {a7 : Nat} {a8 : Nat} {a9 : Nat} {a10 : Nat} {a11 : Nat} {a12 : Nat} {a13 : Nat} {a14 : Nat} {a15 : Nat} {o_n : Int32} {o_all : Int32} {o_made : Int32} {o_own0 : Int64} {o_own1 : Int64} {o_threatMany : Int32} {o_length : Int32} {o_tellings : Int32} {o_game : Nat → Int32} {o_near : Nat → Int64} {o_kept : Nat → Int32} {o_isKept : Nat → Int32} {o_threatOf : Nat → Int32} {o_threatSet : Nat → Int64} {o_text : Nat → Int32} {o_far : Nat → Int32} {o_back : Nat → Int32} {o_isWon : Nat → Int32} {o_told : Nat → Int32} {p1 : Int32} {p2 : Int32} {p3 : Int32} {p5 : Int32} {o : Int32 × Int32 × (Nat → Int32) × (Nat → Int32) × (Nat → Int32) × (Nat → Int32)} (hc : Cx p s m args meth c yX6_connects cX6_connects 9 (some .boolean)) (hK : va_K D vwCl (TY C) s) (hA : ∀ q : Nat, s.heap.size ≤ q → A q) (hO : va_P D vwCl ([] : va_W) s.heap) (hN : ∀ q ∈ ([] : va_W), ¬ A q.1) : ∀ (n : Nat), ∀ (v7 : Int32) (o_holes : Int32) (o_hole : Nat → Int32) (o_won : Nat → Int32) (o_lasts : Nat → Int32) (o_power : Nat → Int32), m_X6_connects_c23 o_n o_own0 o_own1 o_near p1 p2 p3 p5  n v7 o_holes o_hole o_won o_lasts o_power = some o → ∀ (H : Heap) (locs : List Loc), va_P D vwCl (wX6 C a0 a1 a2 a3 a4 a5 a6 a7 a8 a9 a10 a11 a12 a13 a14 a15 o_n o_all o_made o_own0 o_own1 o_threatMany o_length o_holes o_tellings o_game o_near o_kept o_isKept o_threatOf o_threatSet o_text o_far o_back o_hole o_isWon o_won o_lasts o_power o_told) H → va_D A (wX6 C a0 a1 a2 a3 a4 a5 a6 a7 a8 a9 a10 a11 a12 a13 a14 a15 o_n o_all o_made o_own0 o_own1 o_threatMany o_length o_holes o_tellings o_game o_near o_kept o_isKept o_threatOf o_threatSet o_text o_far o_back o_hole o_isWon o_won o_lasts o_power o_told) → va_S A s.heap H locs → ∀ (ls : Array Slot), lv_has ls 9 [(0, .ref a0), (1, .int p1), (2, .int p2), (3, .int p3), (6, .int p5), (7, .int v7)] → W p l e R_X6_connects s m args below meth c H locs 0 0 (MQ below (QWi D o.1 (wX6 C a0 a1 a2 a3 a4 a5 a6 a7 a8 a9 a10 a11 a12 a13 a14 a15 o_n o_all o_made o_own0 o_own1 o_threatMany o_length o.2.1 o_tellings o_game o_near o_kept o_isKept o_threatOf o_threatSet o_text o_far o_back o.2.2.1 o_isWon o.2.2.2.1 o.2.2.2.2.1 o.2.2.2.2.2 o_told) A) args s 0 0 A) (F0 m 23 ls []) := by
  have hx := hc.1
  have hb := hc.2.1
  have hown := hc.2.2.2.2.1
  have hts := hc.2.2.2.2.2.1
  intro n
  induction n with
  | zero =>
    intro v7 o_holes o_hole o_won o_lasts o_power hf
    exact no_some hf
  | succ n ih =>
    intro v7 o_holes o_hole o_won o_lasts o_power hf H locs hP hD hS ls hl
    refine lv_iload hx hb dX6_connects_23 (lv_at hl 5 rfl) ?_
    refine lv_if_lt (tgt := 108) hx hb dX6_connects_25 (by decide) (fun c4 => ?_) (fun c4 => ?_)
    · have hf := if_t hf c4
      refine lv_aload_n hx hb dX6_connects_108 rfl (lv_at hl 0 rfl) ?_
      refine va_get (D := D) (ci := 6) (v := .ref a12) (C := RX6) (T := TX6) (N := 24) hx hb hts inX6 hown hK hP 0 rfl rfl 19 (by decide) (hts _ q_673) (fun _ h9 => h9) rfl dX6_connects_109 ?_
      refine lv_iconst (v := (0 : Int32)) hx hb dX6_connects_112 (by decide) ?_
      refine va_iald hx hb hK hP 12 0 rfl rfl (okI_in (by decide)) dX6_connects_113 ?_
      refine lv_iload_n hx hb dX6_connects_114 rfl (lv_at hl 1 rfl) ?_
      refine lv_icmp_ne (tgt := 122) hx hb dX6_connects_115 (by decide) (fun c5 => ?_) (fun c5 => ?_)
      · have hf := if_f hf c5
        refine lv_iconst (v := (0 : Int32)) hx hb dX6_connects_122 (by decide) ?_
        have hf := Option.some.inj hf
        subst hf
        exact rWz hc rfl rfl hP hD hS dX6_connects_123
      · have hf := if_t hf c5
        refine lv_iconst (v := (1 : Int32)) hx hb dX6_connects_118 (by decide) ?_
        refine lv_goto (tgt := 123) hx hb dX6_connects_119 (by decide) ?_
        have hf := Option.some.inj hf
        subst hf
        exact rWz hc rfl rfl hP hD hS dX6_connects_123
    · have hf := if_f hf c4
      refine lv_aload_n hx hb dX6_connects_28 rfl (lv_at hl 0 rfl) ?_
      refine lv_iload hx hb dX6_connects_29 (lv_at hl 5 rfl) ?_
      obtain ⟨u6, hu6, hf⟩ := bind_some hf
      refine rcVi (As := [.int v7]) (rest := []) hc k_X6_204 (c_X6_laidMany l D C a0 a14 o_n a1 o_all o_made o_own0 o_own1 a2 a3 a4 a5 a6 o_threatMany a7 o_length a8 a9 a10 o_holes a11 a12 a13 a15 o_tellings o_power v7  _ hu6) ⟨rfl, rfl, Nat.le_of_ble_eq_true rfl, Nat.le_of_ble_eq_true rfl⟩ (hP.sub [0, 14] rfl) hK (q0 := 0) rfl rfl rfl hl rfl rfl (Nat.le_of_ble_eq_true rfl) ⟨Nat.zero_le _, Nat.zero_le _⟩ dX6_connects_31 ?_
      refine lv_istore (lv' := [(8, .int u6), (0, .ref a0), (1, .int p1), (2, .int p2), (3, .int p3), (6, .int p5), (7, .int v7)]) hx hb dX6_connects_34 hl (by decide) rfl (fun ls hl => ?_)
      refine lv_iload hx hb dX6_connects_36 (lv_at hl 0 rfl) ?_
      refine lv_aload_n hx hb dX6_connects_38 rfl (lv_at hl 1 rfl) ?_
      refine va_get (D := D) (ci := 6) (v := .int o_holes) (C := RX6) (T := TX6) (N := 24) hx hb hts inX6 hown hK hP 0 rfl rfl 17 (by decide) (hts _ q_671) (fun _ h9 => h9) rfl dX6_connects_39 ?_
      refine lv_icmp_ne (tgt := 89) hx hb dX6_connects_42 (by decide) (fun c7 => ?_) (fun c7 => ?_)
      · have hf := if_f hf c7
        refine lv_aload_n hx hb dX6_connects_89 rfl (lv_at hl 1 rfl) ?_
        refine lv_iload hx hb dX6_connects_90 (lv_at hl 6 rfl) ?_
        refine lv_iload hx hb dX6_connects_92 (lv_at hl 5 rfl) ?_
        refine lv_iload hx hb dX6_connects_94 (lv_at hl 0 rfl) ?_
        refine lv_iadd hx hb dX6_connects_96 ?_
        refine lv_iconst (v := (2 : Int32)) hx hb dX6_connects_97 (by decide) ?_
        refine lv_irem hx hb dX6_connects_98 (by decide) ?_
        obtain ⟨u8, hu8, hf⟩ := bind_some hf
        refine wcVv (A := A) (wc := wX6 C a0 a1 a2 a3 a4 a5 a6 a7 a8 a9 a10 a11 a12 a13 a14 a15 o_n o_all o_made o_own0 o_own1 o_threatMany o_length o_holes o_tellings o_game o_near o_kept o_isKept o_threatOf o_threatSet o_text o_far o_back o_hole o_isWon o_won o_lasts o_power o_told) (w1 := wX6 C a0 a1 a2 a3 a4 a5 a6 a7 a8 a9 a10 a11 a12 a13 a14 a15 o_n o_all o_made o_own0 o_own1 o_threatMany o_length o_holes o_tellings o_game o_near o_kept o_isKept o_threatOf o_threatSet o_text o_far o_back o_hole o_isWon u8.1 u8.2 o_power o_told) (rc := []) (As := [.int v7, .int (jirem (p5 + u6) (2 : Int32))]) (rest := []) hc k_X6_207 (c_X6_decides l D C _ a0 a1 a2 a3 a4 a5 a6 a7 a8 a9 a10 a11 a12 a13 a14 a15 o_n o_all o_made o_own0 o_own1 o_threatMany o_length o_holes o_tellings o_game o_near o_kept o_isKept o_threatOf o_threatSet o_text o_far o_back o_hole o_isWon o_won o_lasts o_power o_told v7 (jirem (p5 + u6) (2 : Int32))  _ hu8) ⟨rfl, rfl, Nat.le_of_ble_eq_true rfl, Nat.le_of_ble_eq_true rfl⟩ hP hD hS hA hK [0, 1, 2, 3, 4, 5, 6, 7, 8, 9, 10, 11, 12, 13, 14, 15] [] rfl rfl rfl rfl (by decide) (hP.sub [] rfl) Ap_nil (q0 := 0) rfl rfl rfl hl rfl rfl (Nat.le_of_ble_eq_true rfl) ⟨Nat.zero_le _, Nat.zero_le _⟩ dX6_connects_99 (fun H locs hP hD hS => ?_)
        have hP : va_P D vwCl (wX6 C a0 a1 a2 a3 a4 a5 a6 a7 a8 a9 a10 a11 a12 a13 a14 a15 o_n o_all o_made o_own0 o_own1 o_threatMany o_length o_holes o_tellings o_game o_near o_kept o_isKept o_threatOf o_threatSet o_text o_far o_back o_hole o_isWon u8.1 u8.2 o_power o_told) H := hP.sub [0, 1, 2, 3, 4, 5, 6, 7, 8, 9, 10, 11, 12, 13, 14, 15] rfl
        have hD : va_D A (wX6 C a0 a1 a2 a3 a4 a5 a6 a7 a8 a9 a10 a11 a12 a13 a14 a15 o_n o_all o_made o_own0 o_own1 o_threatMany o_length o_holes o_tellings o_game o_near o_kept o_isKept o_threatOf o_threatSet o_text o_far o_back o_hole o_isWon u8.1 u8.2 o_power o_told) := hD.sub [0, 1, 2, 3, 4, 5, 6, 7, 8, 9, 10, 11, 12, 13, 14, 15] rfl rfl
        exact w_X6_connects_c102 hc hK hA hO hN (m_X6_connects_c23 o_n o_own0 o_own1 o_near p1 p2 p3 p5  n) ih v7 o_holes o_hole u8.1 u8.2 o_power hf _ _ hP hD hS ls (lv_sub hl [1, 2, 3, 4, 5, 6] rfl)
      · have hf := if_t hf c7
        refine lv_aload_n hx hb dX6_connects_45 rfl (lv_at hl 1 rfl) ?_
        refine va_get (D := D) (ci := 6) (v := .ref a12) (C := RX6) (T := TX6) (N := 24) hx hb hts inX6 hown hK hP 0 rfl rfl 19 (by decide) (hts _ q_673) (fun _ h9 => h9) rfl dX6_connects_46 ?_
        refine lv_iload hx hb dX6_connects_49 (lv_at hl 6 rfl) ?_
        refine lv_aload_n hx hb dX6_connects_51 rfl (lv_at hl 1 rfl) ?_
        refine lv_aload_n hx hb dX6_connects_52 rfl (lv_at hl 1 rfl) ?_
        refine lv_iload_n hx hb dX6_connects_53 rfl (lv_at hl 3 rfl) ?_
        obtain ⟨u9, hu9, hf⟩ := bind_some hf
        refine rcVl (As := [.int p2]) (rest := [.ref a0, .int v7, .ref a12]) hc k_X6_221 (c_X6_place l D C a0 o_n a1 o_all o_made o_own0 o_own1 a2 a3 a4 a5 a6 o_threatMany a7 o_length a8 a9 a10 o_holes a11 a12 a13 a14 a15 o_tellings p2  _ hu9) ⟨rfl, rfl, Nat.le_of_ble_eq_true rfl, Nat.le_of_ble_eq_true rfl⟩ (hP.sub [0] rfl) hK (q0 := 0) rfl rfl rfl hl rfl rfl (Nat.le_of_ble_eq_true rfl) ⟨Nat.zero_le _, Nat.zero_le _⟩ dX6_connects_54 ?_
        refine lv_aload_n hx hb dX6_connects_57 rfl (lv_at hl 1 rfl) ?_
        refine lv_iload hx hb dX6_connects_58 (lv_at hl 6 rfl) ?_
        refine lv_iload_n hx hb dX6_connects_60 rfl (lv_at hl 2 rfl) ?_
        obtain ⟨u10, hu10, hf⟩ := bind_some hf
        refine rcVl (As := [.int v7, .int p1]) (rest := [.long u9, .ref a0, .int v7, .ref a12]) hc k_X6_200 (c_X6_laid l D C a0 a14 a10 o_n a1 o_all o_made o_own0 o_own1 a2 a3 a4 a5 a6 o_threatMany a7 o_length a8 a9 o_holes a11 a12 a13 a15 o_tellings o_power o_hole v7 p1  _ hu10) ⟨rfl, rfl, Nat.le_of_ble_eq_true rfl, Nat.le_of_ble_eq_true rfl⟩ (hP.sub [0, 14, 10] rfl) hK (q0 := 0) rfl rfl rfl hl rfl rfl (Nat.le_of_ble_eq_true rfl) ⟨Nat.zero_le _, Nat.zero_le _⟩ dX6_connects_61 ?_
        obtain ⟨u11, hu11, hf⟩ := bind_some hf
        refine rcVl (As := [.long u9, .long u10]) (rest := [.int v7, .ref a12]) hc k_X6_97 (c_X6_reach l D C a0 a2 o_n a1 o_all o_made o_own0 o_own1 a3 a4 a5 a6 o_threatMany a7 o_length a8 a9 a10 o_holes a11 a12 a13 a14 a15 o_tellings o_near u9 u10  _ hu11) ⟨rfl, rfl, Nat.le_of_ble_eq_true rfl, Nat.le_of_ble_eq_true rfl⟩ (hP.sub [0, 2] rfl) hK (q0 := 0) rfl rfl rfl hl rfl rfl (Nat.le_of_ble_eq_true rfl) ⟨Nat.zero_le _, Nat.zero_le _⟩ dX6_connects_64 ?_
        refine lv_aload_n hx hb dX6_connects_67 rfl (lv_at hl 1 rfl) ?_
        refine lv_iload_n hx hb dX6_connects_68 rfl (lv_at hl 4 rfl) ?_
        obtain ⟨u12, hu12, hf⟩ := bind_some hf
        refine rcVl (As := [.int p3]) (rest := [.long u11, .int v7, .ref a12]) hc k_X6_221 (c_X6_place l D C a0 o_n a1 o_all o_made o_own0 o_own1 a2 a3 a4 a5 a6 o_threatMany a7 o_length a8 a9 a10 o_holes a11 a12 a13 a14 a15 o_tellings p3  _ hu12) ⟨rfl, rfl, Nat.le_of_ble_eq_true rfl, Nat.le_of_ble_eq_true rfl⟩ (hP.sub [0] rfl) hK (q0 := 0) rfl rfl rfl hl rfl rfl (Nat.le_of_ble_eq_true rfl) ⟨Nat.zero_le _, Nat.zero_le _⟩ dX6_connects_69 ?_
        refine lv_land hx hb dX6_connects_72 ?_
        refine lv_lconst (v := (0 : Int64)) hx hb dX6_connects_73 (by decide) ?_
        refine lc_eq (tgt := 82) hx hb dX6_connects_74 dX6_connects_75 (by decide) (fun c13 => ?_) (fun c13 => ?_)
        · have hf := if_t hf c13
          refine lv_iconst (v := (1 : Int32)) hx hb dX6_connects_82 (by decide) ?_
          refine lv_iload_n hx hb dX6_connects_83 rfl (lv_at hl 2 rfl) ?_
          refine lv_isub hx hb dX6_connects_84 ?_
          exact w_X6_connects_c85 hc hK hA hO hN (m_X6_connects_c23 o_n o_own0 o_own1 o_near p1 p2 p3 p5  n) ih v7 ((1 : Int32) - p1) v7 o_holes o_hole o_won o_lasts o_power hf _ _ hP hD hS ls (lv_sub hl [1, 2, 3, 4, 5, 6] rfl)
        · have hf := if_f hf c13
          refine lv_iload_n hx hb dX6_connects_78 rfl (lv_at hl 2 rfl) ?_
          refine lv_goto (tgt := 85) hx hb dX6_connects_79 (by decide) ?_
          exact w_X6_connects_c85 hc hK hA hO hN (m_X6_connects_c23 o_n o_own0 o_own1 o_near p1 p2 p3 p5  n) ih v7 p1 v7 o_holes o_hole o_won o_lasts o_power hf _ _ hP hD hS ls (lv_sub hl [1, 2, 3, 4, 5, 6] rfl)
def m_X6_connects (o_n : Int32) (o_own0 : Int64) (o_own1 : Int64) (o_near : Nat → Int64) (o_hole : Nat → Int32) (o_won : Nat → Int32) (o_lasts : Nat → Int32) (o_power : Nat → Int32) (p1 : Int32) (p2 : Int32) (p3 : Int32) (p4 : Int64) (p5 : Int32) : Option (Int32 × Int32 × (Nat → Int32) × (Nat → Int32) × (Nat → Int32) × (Nat → Int32)) := ((m_X6_findHoles o_n o_hole p4).bind fun u1 => ((m_X6_powers o_power).bind fun u2 => (if okI u1.1 10 = true then (m_X6_connects_c23 o_n o_own0 o_own1 o_near p1 p2 p3 p5 FU ((u2 u1.1.toNatClampNeg) - (1 : Int32)) u1.1 u1.2 o_won o_lasts u2) else none)))
set_option maxHeartbeats 4000000 in
set_option maxRecDepth 100000 in
theorem c_X6_connects (l : Launch) (D : va_G) (C : Nat → ClassId) (sz : Nat) (a0 : Nat) (a1 : Nat) (a2 : Nat) (a3 : Nat) (a4 : Nat) (a5 : Nat) (a6 : Nat) (a7 : Nat) (a8 : Nat) (a9 : Nat) (a10 : Nat) (a11 : Nat) (a12 : Nat) (a13 : Nat) (a14 : Nat) (a15 : Nat) (o_n : Int32) (o_all : Int32) (o_made : Int32) (o_own0 : Int64) (o_own1 : Int64) (o_threatMany : Int32) (o_length : Int32) (o_holes : Int32) (o_tellings : Int32) (o_game : Nat → Int32) (o_near : Nat → Int64) (o_kept : Nat → Int32) (o_isKept : Nat → Int32) (o_threatOf : Nat → Int32) (o_threatSet : Nat → Int64) (o_text : Nat → Int32) (o_far : Nat → Int32) (o_back : Nat → Int32) (o_hole : Nat → Int32) (o_isWon : Nat → Int32) (o_won : Nat → Int32) (o_lasts : Nat → Int32) (o_power : Nat → Int32) (o_told : Nat → Int32) (p1 : Int32) (p2 : Int32) (p3 : Int32) (p4 : Int64) (p5 : Int32) (o : Int32 × Int32 × (Nat → Int32) × (Nat → Int32) × (Nat → Int32) × (Nat → Int32)) (hf : m_X6_connects o_n o_own0 o_own1 o_near o_hole o_won o_lasts o_power p1 p2 p3 p4 p5 = some o) : Met l yX6_connects (wl yX6_connects cX6_connects 9 (some .boolean)) R_X6_connects (PW [.ref a0, .int p1, .int p2, .int p3, .long p4, .int p5] D C sz (wX6 C a0 a1 a2 a3 a4 a5 a6 a7 a8 a9 a10 a11 a12 a13 a14 a15 o_n o_all o_made o_own0 o_own1 o_threatMany o_length o_holes o_tellings o_game o_near o_kept o_isKept o_threatOf o_threatSet o_text o_far o_back o_hole o_isWon o_won o_lasts o_power o_told) ([] : va_W)) (QWi D o.1 (wX6 C a0 a1 a2 a3 a4 a5 a6 a7 a8 a9 a10 a11 a12 a13 a14 a15 o_n o_all o_made o_own0 o_own1 o_threatMany o_length o.2.1 o_tellings o_game o_near o_kept o_isKept o_threatOf o_threatSet o_text o_far o_back o.2.2.1 o_isWon o.2.2.2.1 o.2.2.2.2.1 o.2.2.2.2.2 o_told) (va_A (wX6 C a0 a1 a2 a3 a4 a5 a6 a7 a8 a9 a10 a11 a12 a13 a14 a15 o_n o_all o_made o_own0 o_own1 o_threatMany o_length o_holes o_tellings o_game o_near o_kept o_isKept o_threatOf o_threatSet o_text o_far o_back o_hole o_isWon o_won o_lasts o_power o_told) sz)) 0 0 (va_A (wX6 C a0 a1 a2 a3 a4 a5 a6 a7 a8 a9 a10 a11 a12 a13 a14 a15 o_n o_all o_made o_own0 o_own1 o_threatMany o_length o_holes o_tellings o_game o_near o_kept o_isKept o_threatOf o_threatSet o_text o_far o_back o_hole o_isWon o_won o_lasts o_power o_told) sz) := by
  refine Met_ofC (by decide) ?_
  intro p e s m args below meth c hc hv
  obtain ⟨rfl, hsz, hP, hK, hD0, hO, hN0⟩ := hv
  subst hsz
  have hD := hD0.self (sz := s.heap.size)
  have hN : ∀ q ∈ ([] : va_W), ¬ va_A (wX6 C a0 a1 a2 a3 a4 a5 a6 a7 a8 a9 a10 a11 a12 a13 a14 a15 o_n o_all o_made o_own0 o_own1 o_threatMany o_length o_holes o_tellings o_game o_near o_kept o_isKept o_threatOf o_threatSet o_text o_far o_back o_hole o_isWon o_won o_lasts o_power o_told) s.heap.size q.1 := hN0
  generalize hAe : va_A (wX6 C a0 a1 a2 a3 a4 a5 a6 a7 a8 a9 a10 a11 a12 a13 a14 a15 o_n o_all o_made o_own0 o_own1 o_threatMany o_length o_holes o_tellings o_game o_near o_kept o_isKept o_threatOf o_threatSet o_text o_far o_back o_hole o_isWon o_won o_lasts o_power o_told) s.heap.size = A at hD hN ⊢
  have hA : ∀ q : Nat, s.heap.size ≤ q → A q := fun q h => by rw [← hAe]; exact Or.inr h
  have hS : va_S A s.heap s.heap [] := va_S.rf
  have hx := hc.1
  have hb := hc.2.1
  have hown := hc.2.2.2.2.1
  have hts := hc.2.2.2.2.2.1
  refine en_F rfl (fun ls hl => ?_)
  have hl : lv_has ls 9 [(0, .ref a0), (1, .int p1), (2, .int p2), (3, .int p3), (4, .long p4), (6, .int p5)] := hl
  refine lv_aload_n hx hb dX6_connects_0 rfl (lv_at hl 0 rfl) ?_
  refine lv_lload hx hb dX6_connects_1 (lv_at hl 4 rfl) ?_
  obtain ⟨u1, hu1, hf⟩ := bind_some hf
  refine wcVv (A := A) (wc := wX6 C a0 a1 a2 a3 a4 a5 a6 a7 a8 a9 a10 a11 a12 a13 a14 a15 o_n o_all o_made o_own0 o_own1 o_threatMany o_length o_holes o_tellings o_game o_near o_kept o_isKept o_threatOf o_threatSet o_text o_far o_back o_hole o_isWon o_won o_lasts o_power o_told) (w1 := wX6 C a0 a1 a2 a3 a4 a5 a6 a7 a8 a9 a10 a11 a12 a13 a14 a15 o_n o_all o_made o_own0 o_own1 o_threatMany o_length u1.1 o_tellings o_game o_near o_kept o_isKept o_threatOf o_threatSet o_text o_far o_back u1.2 o_isWon o_won o_lasts o_power o_told) (rc := []) (As := [.long p4]) (rest := []) hc k_X6_180 (c_X6_findHoles l D C _ a0 a1 a2 a3 a4 a5 a6 a7 a8 a9 a10 a11 a12 a13 a14 a15 o_n o_all o_made o_own0 o_own1 o_threatMany o_length o_holes o_tellings o_game o_near o_kept o_isKept o_threatOf o_threatSet o_text o_far o_back o_hole o_isWon o_won o_lasts o_power o_told p4  _ hu1) ⟨rfl, rfl, Nat.le_of_ble_eq_true rfl, Nat.le_of_ble_eq_true rfl⟩ hP hD hS hA hK [0, 1, 2, 3, 4, 5, 6, 7, 8, 9, 10, 11, 12, 13, 14, 15] [] rfl rfl rfl rfl (by decide) (hP.sub [] rfl) Ap_nil (q0 := 0) rfl rfl rfl hl rfl rfl (Nat.le_of_ble_eq_true rfl) ⟨Nat.zero_le _, Nat.zero_le _⟩ dX6_connects_3 (fun H locs hP hD hS => ?_)
  have hP : va_P D vwCl (wX6 C a0 a1 a2 a3 a4 a5 a6 a7 a8 a9 a10 a11 a12 a13 a14 a15 o_n o_all o_made o_own0 o_own1 o_threatMany o_length u1.1 o_tellings o_game o_near o_kept o_isKept o_threatOf o_threatSet o_text o_far o_back u1.2 o_isWon o_won o_lasts o_power o_told) H := hP.sub [0, 1, 2, 3, 4, 5, 6, 7, 8, 9, 10, 11, 12, 13, 14, 15] rfl
  have hD : va_D A (wX6 C a0 a1 a2 a3 a4 a5 a6 a7 a8 a9 a10 a11 a12 a13 a14 a15 o_n o_all o_made o_own0 o_own1 o_threatMany o_length u1.1 o_tellings o_game o_near o_kept o_isKept o_threatOf o_threatSet o_text o_far o_back u1.2 o_isWon o_won o_lasts o_power o_told) := hD.sub [0, 1, 2, 3, 4, 5, 6, 7, 8, 9, 10, 11, 12, 13, 14, 15] rfl rfl
  refine lv_aload_n hx hb dX6_connects_6 rfl (lv_at hl 0 rfl) ?_
  obtain ⟨u2, hu2, hf⟩ := bind_some hf
  refine wcVv (A := A) (wc := wX6 C a0 a1 a2 a3 a4 a5 a6 a7 a8 a9 a10 a11 a12 a13 a14 a15 o_n o_all o_made o_own0 o_own1 o_threatMany o_length u1.1 o_tellings o_game o_near o_kept o_isKept o_threatOf o_threatSet o_text o_far o_back u1.2 o_isWon o_won o_lasts o_power o_told) (w1 := wX6 C a0 a1 a2 a3 a4 a5 a6 a7 a8 a9 a10 a11 a12 a13 a14 a15 o_n o_all o_made o_own0 o_own1 o_threatMany o_length u1.1 o_tellings o_game o_near o_kept o_isKept o_threatOf o_threatSet o_text o_far o_back u1.2 o_isWon o_won o_lasts u2 o_told) (rc := []) (As := []) (rest := []) hc k_X6_197 (c_X6_powers l D C _ a0 a1 a2 a3 a4 a5 a6 a7 a8 a9 a10 a11 a12 a13 a14 a15 o_n o_all o_made o_own0 o_own1 o_threatMany o_length u1.1 o_tellings o_game o_near o_kept o_isKept o_threatOf o_threatSet o_text o_far o_back u1.2 o_isWon o_won o_lasts o_power o_told  _ hu2) ⟨rfl, rfl, Nat.le_of_ble_eq_true rfl, Nat.le_of_ble_eq_true rfl⟩ hP hD hS hA hK [0, 1, 2, 3, 4, 5, 6, 7, 8, 9, 10, 11, 12, 13, 14, 15] [] rfl rfl rfl rfl (by decide) (hP.sub [] rfl) Ap_nil (q0 := 0) rfl rfl rfl hl rfl rfl (Nat.le_of_ble_eq_true rfl) ⟨Nat.zero_le _, Nat.zero_le _⟩ dX6_connects_7 (fun H locs hP hD hS => ?_)
  have hP : va_P D vwCl (wX6 C a0 a1 a2 a3 a4 a5 a6 a7 a8 a9 a10 a11 a12 a13 a14 a15 o_n o_all o_made o_own0 o_own1 o_threatMany o_length u1.1 o_tellings o_game o_near o_kept o_isKept o_threatOf o_threatSet o_text o_far o_back u1.2 o_isWon o_won o_lasts u2 o_told) H := hP.sub [0, 1, 2, 3, 4, 5, 6, 7, 8, 9, 10, 11, 12, 13, 14, 15] rfl
  have hD : va_D A (wX6 C a0 a1 a2 a3 a4 a5 a6 a7 a8 a9 a10 a11 a12 a13 a14 a15 o_n o_all o_made o_own0 o_own1 o_threatMany o_length u1.1 o_tellings o_game o_near o_kept o_isKept o_threatOf o_threatSet o_text o_far o_back u1.2 o_isWon o_won o_lasts u2 o_told) := hD.sub [0, 1, 2, 3, 4, 5, 6, 7, 8, 9, 10, 11, 12, 13, 14, 15] rfl rfl
  refine lv_aload_n hx hb dX6_connects_10 rfl (lv_at hl 0 rfl) ?_
  refine va_get (D := D) (ci := 6) (v := .ref a14) (C := RX6) (T := TX6) (N := 24) hx hb hts inX6 hown hK hP 0 rfl rfl 21 (by decide) (hts _ q_675) (fun _ h9 => h9) rfl dX6_connects_11 ?_
  refine lv_aload_n hx hb dX6_connects_14 rfl (lv_at hl 0 rfl) ?_
  refine va_get (D := D) (ci := 6) (v := .int u1.1) (C := RX6) (T := TX6) (N := 24) hx hb hts inX6 hown hK hP 0 rfl rfl 17 (by decide) (hts _ q_671) (fun _ h9 => h9) rfl dX6_connects_15 ?_
  obtain ⟨h3, hf⟩ := ok_t hf
  refine va_iald hx hb hK hP 14 0 rfl rfl (okI_in h3) dX6_connects_18 ?_
  refine lv_iconst (v := (1 : Int32)) hx hb dX6_connects_19 (by decide) ?_
  refine lv_isub hx hb dX6_connects_20 ?_
  refine lv_istore (lv' := [(7, .int ((u2 u1.1.toNatClampNeg) - (1 : Int32))), (0, .ref a0), (1, .int p1), (2, .int p2), (3, .int p3), (4, .long p4), (6, .int p5)]) hx hb dX6_connects_21 hl (by decide) rfl (fun ls hl => ?_)
  exact w_X6_connects_c23 hc hK hA hO hN  FU ((u2 u1.1.toNatClampNeg) - (1 : Int32)) u1.1 u1.2 o_won o_lasts u2 hf _ _ hP hD hS ls (lv_sub hl [1, 2, 3, 4, 6, 0] rfl)
abbrev R_X6_strengthOf : Room := { frames := 4, cells := 0, slots := 0, locals := 103 }
def m_X6_strengthOf (o_n : Int32) (o_own0 : Int64) (o_own1 : Int64) (o_near : Nat → Int64) (o_hole : Nat → Int32) (o_won : Nat → Int32) (o_lasts : Nat → Int32) (o_power : Nat → Int32) (p1 : Int32) (p2 : Int32) (p3 : Int32) (p4 : Int64) : Option (Int32 × Int32 × (Nat → Int32) × (Nat → Int32) × (Nat → Int32) × (Nat → Int32)) := ((m_X6_connects o_n o_own0 o_own1 o_near o_hole o_won o_lasts o_power p1 p2 p3 p4 ((1 : Int32) - p1)).bind fun u1 => (if u1.1 = 0 then ((m_X6_connects o_n o_own0 o_own1 o_near u1.2.2.1 u1.2.2.2.1 u1.2.2.2.2.1 u1.2.2.2.2.2 p1 p2 p3 p4 p1).bind fun u3 => (if u3.1 = 0 then some ((0 : Int32), u3.2.1, u3.2.2.1, u3.2.2.2.1, u3.2.2.2.2.1, u3.2.2.2.2.2) else some ((1 : Int32), u3.2.1, u3.2.2.1, u3.2.2.2.1, u3.2.2.2.2.1, u3.2.2.2.2.2))) else some ((2 : Int32), u1.2.1, u1.2.2.1, u1.2.2.2.1, u1.2.2.2.2.1, u1.2.2.2.2.2)))
set_option maxHeartbeats 4000000 in
set_option maxRecDepth 100000 in
theorem c_X6_strengthOf (l : Launch) (D : va_G) (C : Nat → ClassId) (sz : Nat) (a0 : Nat) (a1 : Nat) (a2 : Nat) (a3 : Nat) (a4 : Nat) (a5 : Nat) (a6 : Nat) (a7 : Nat) (a8 : Nat) (a9 : Nat) (a10 : Nat) (a11 : Nat) (a12 : Nat) (a13 : Nat) (a14 : Nat) (a15 : Nat) (o_n : Int32) (o_all : Int32) (o_made : Int32) (o_own0 : Int64) (o_own1 : Int64) (o_threatMany : Int32) (o_length : Int32) (o_holes : Int32) (o_tellings : Int32) (o_game : Nat → Int32) (o_near : Nat → Int64) (o_kept : Nat → Int32) (o_isKept : Nat → Int32) (o_threatOf : Nat → Int32) (o_threatSet : Nat → Int64) (o_text : Nat → Int32) (o_far : Nat → Int32) (o_back : Nat → Int32) (o_hole : Nat → Int32) (o_isWon : Nat → Int32) (o_won : Nat → Int32) (o_lasts : Nat → Int32) (o_power : Nat → Int32) (o_told : Nat → Int32) (p1 : Int32) (p2 : Int32) (p3 : Int32) (p4 : Int64) (o : Int32 × Int32 × (Nat → Int32) × (Nat → Int32) × (Nat → Int32) × (Nat → Int32)) (hf : m_X6_strengthOf o_n o_own0 o_own1 o_near o_hole o_won o_lasts o_power p1 p2 p3 p4 = some o) : Met l yX6_strengthOf (wl yX6_strengthOf cX6_strengthOf 6 (some .int)) R_X6_strengthOf (PW [.ref a0, .int p1, .int p2, .int p3, .long p4] D C sz (wX6 C a0 a1 a2 a3 a4 a5 a6 a7 a8 a9 a10 a11 a12 a13 a14 a15 o_n o_all o_made o_own0 o_own1 o_threatMany o_length o_holes o_tellings o_game o_near o_kept o_isKept o_threatOf o_threatSet o_text o_far o_back o_hole o_isWon o_won o_lasts o_power o_told) ([] : va_W)) (QWi D o.1 (wX6 C a0 a1 a2 a3 a4 a5 a6 a7 a8 a9 a10 a11 a12 a13 a14 a15 o_n o_all o_made o_own0 o_own1 o_threatMany o_length o.2.1 o_tellings o_game o_near o_kept o_isKept o_threatOf o_threatSet o_text o_far o_back o.2.2.1 o_isWon o.2.2.2.1 o.2.2.2.2.1 o.2.2.2.2.2 o_told) (va_A (wX6 C a0 a1 a2 a3 a4 a5 a6 a7 a8 a9 a10 a11 a12 a13 a14 a15 o_n o_all o_made o_own0 o_own1 o_threatMany o_length o_holes o_tellings o_game o_near o_kept o_isKept o_threatOf o_threatSet o_text o_far o_back o_hole o_isWon o_won o_lasts o_power o_told) sz)) 0 0 (va_A (wX6 C a0 a1 a2 a3 a4 a5 a6 a7 a8 a9 a10 a11 a12 a13 a14 a15 o_n o_all o_made o_own0 o_own1 o_threatMany o_length o_holes o_tellings o_game o_near o_kept o_isKept o_threatOf o_threatSet o_text o_far o_back o_hole o_isWon o_won o_lasts o_power o_told) sz) := by
  refine Met_ofC (by decide) ?_
  intro p e s m args below meth c hc hv
  obtain ⟨rfl, hsz, hP, hK, hD0, hO, hN0⟩ := hv
  subst hsz
  have hD := hD0.self (sz := s.heap.size)
  have hN : ∀ q ∈ ([] : va_W), ¬ va_A (wX6 C a0 a1 a2 a3 a4 a5 a6 a7 a8 a9 a10 a11 a12 a13 a14 a15 o_n o_all o_made o_own0 o_own1 o_threatMany o_length o_holes o_tellings o_game o_near o_kept o_isKept o_threatOf o_threatSet o_text o_far o_back o_hole o_isWon o_won o_lasts o_power o_told) s.heap.size q.1 := hN0
  generalize hAe : va_A (wX6 C a0 a1 a2 a3 a4 a5 a6 a7 a8 a9 a10 a11 a12 a13 a14 a15 o_n o_all o_made o_own0 o_own1 o_threatMany o_length o_holes o_tellings o_game o_near o_kept o_isKept o_threatOf o_threatSet o_text o_far o_back o_hole o_isWon o_won o_lasts o_power o_told) s.heap.size = A at hD hN ⊢
  have hA : ∀ q : Nat, s.heap.size ≤ q → A q := fun q h => by rw [← hAe]; exact Or.inr h
  have hS : va_S A s.heap s.heap [] := va_S.rf
  have hx := hc.1
  have hb := hc.2.1
  have hown := hc.2.2.2.2.1
  have hts := hc.2.2.2.2.2.1
  refine en_F rfl (fun ls hl => ?_)
  have hl : lv_has ls 6 [(0, .ref a0), (1, .int p1), (2, .int p2), (3, .int p3), (4, .long p4)] := hl
  refine lv_aload_n hx hb dX6_strengthOf_0 rfl (lv_at hl 0 rfl) ?_
  refine lv_iload_n hx hb dX6_strengthOf_1 rfl (lv_at hl 1 rfl) ?_
  refine lv_iload_n hx hb dX6_strengthOf_2 rfl (lv_at hl 2 rfl) ?_
  refine lv_iload_n hx hb dX6_strengthOf_3 rfl (lv_at hl 3 rfl) ?_
  refine lv_lload hx hb dX6_strengthOf_4 (lv_at hl 4 rfl) ?_
  refine lv_iconst (v := (1 : Int32)) hx hb dX6_strengthOf_6 (by decide) ?_
  refine lv_iload_n hx hb dX6_strengthOf_7 rfl (lv_at hl 1 rfl) ?_
  refine lv_isub hx hb dX6_strengthOf_8 ?_
  obtain ⟨u1, hu1, hf⟩ := bind_some hf
  refine wcVi (A := A) (wc := wX6 C a0 a1 a2 a3 a4 a5 a6 a7 a8 a9 a10 a11 a12 a13 a14 a15 o_n o_all o_made o_own0 o_own1 o_threatMany o_length o_holes o_tellings o_game o_near o_kept o_isKept o_threatOf o_threatSet o_text o_far o_back o_hole o_isWon o_won o_lasts o_power o_told) (w1 := wX6 C a0 a1 a2 a3 a4 a5 a6 a7 a8 a9 a10 a11 a12 a13 a14 a15 o_n o_all o_made o_own0 o_own1 o_threatMany o_length u1.2.1 o_tellings o_game o_near o_kept o_isKept o_threatOf o_threatSet o_text o_far o_back u1.2.2.1 o_isWon u1.2.2.2.1 u1.2.2.2.2.1 u1.2.2.2.2.2 o_told) (rc := []) (As := [.int p1, .int p2, .int p3, .long p4, .int ((1 : Int32) - p1)]) (rest := []) hc k_X6_224 (c_X6_connects l D C _ a0 a1 a2 a3 a4 a5 a6 a7 a8 a9 a10 a11 a12 a13 a14 a15 o_n o_all o_made o_own0 o_own1 o_threatMany o_length o_holes o_tellings o_game o_near o_kept o_isKept o_threatOf o_threatSet o_text o_far o_back o_hole o_isWon o_won o_lasts o_power o_told p1 p2 p3 p4 ((1 : Int32) - p1)  _ hu1) ⟨rfl, rfl, Nat.le_of_ble_eq_true rfl, Nat.le_of_ble_eq_true rfl⟩ hP hD hS hA hK [0, 1, 2, 3, 4, 5, 6, 7, 8, 9, 10, 11, 12, 13, 14, 15] [] rfl rfl rfl rfl (by decide) (hP.sub [] rfl) Ap_nil (q0 := 0) rfl rfl rfl hl rfl rfl (Nat.le_of_ble_eq_true rfl) ⟨Nat.zero_le _, Nat.zero_le _⟩ dX6_strengthOf_9 (fun H locs hP hD hS => ?_)
  have hP : va_P D vwCl (wX6 C a0 a1 a2 a3 a4 a5 a6 a7 a8 a9 a10 a11 a12 a13 a14 a15 o_n o_all o_made o_own0 o_own1 o_threatMany o_length u1.2.1 o_tellings o_game o_near o_kept o_isKept o_threatOf o_threatSet o_text o_far o_back u1.2.2.1 o_isWon u1.2.2.2.1 u1.2.2.2.2.1 u1.2.2.2.2.2 o_told) H := hP.sub [0, 1, 2, 3, 4, 5, 6, 7, 8, 9, 10, 11, 12, 13, 14, 15] rfl
  have hD : va_D A (wX6 C a0 a1 a2 a3 a4 a5 a6 a7 a8 a9 a10 a11 a12 a13 a14 a15 o_n o_all o_made o_own0 o_own1 o_threatMany o_length u1.2.1 o_tellings o_game o_near o_kept o_isKept o_threatOf o_threatSet o_text o_far o_back u1.2.2.1 o_isWon u1.2.2.2.1 u1.2.2.2.2.1 u1.2.2.2.2.2 o_told) := hD.sub [0, 1, 2, 3, 4, 5, 6, 7, 8, 9, 10, 11, 12, 13, 14, 15] rfl rfl
  refine lv_if_eq (tgt := 19) hx hb dX6_strengthOf_12 (by decide) (fun c2 => ?_) (fun c2 => ?_)
  · have hf := if_t hf c2
    refine lv_aload_n hx hb dX6_strengthOf_19 rfl (lv_at hl 0 rfl) ?_
    refine lv_iload_n hx hb dX6_strengthOf_20 rfl (lv_at hl 1 rfl) ?_
    refine lv_iload_n hx hb dX6_strengthOf_21 rfl (lv_at hl 2 rfl) ?_
    refine lv_iload_n hx hb dX6_strengthOf_22 rfl (lv_at hl 3 rfl) ?_
    refine lv_lload hx hb dX6_strengthOf_23 (lv_at hl 4 rfl) ?_
    refine lv_iload_n hx hb dX6_strengthOf_25 rfl (lv_at hl 1 rfl) ?_
    obtain ⟨u3, hu3, hf⟩ := bind_some hf
    refine wcVi (A := A) (wc := wX6 C a0 a1 a2 a3 a4 a5 a6 a7 a8 a9 a10 a11 a12 a13 a14 a15 o_n o_all o_made o_own0 o_own1 o_threatMany o_length u1.2.1 o_tellings o_game o_near o_kept o_isKept o_threatOf o_threatSet o_text o_far o_back u1.2.2.1 o_isWon u1.2.2.2.1 u1.2.2.2.2.1 u1.2.2.2.2.2 o_told) (w1 := wX6 C a0 a1 a2 a3 a4 a5 a6 a7 a8 a9 a10 a11 a12 a13 a14 a15 o_n o_all o_made o_own0 o_own1 o_threatMany o_length u3.2.1 o_tellings o_game o_near o_kept o_isKept o_threatOf o_threatSet o_text o_far o_back u3.2.2.1 o_isWon u3.2.2.2.1 u3.2.2.2.2.1 u3.2.2.2.2.2 o_told) (rc := []) (As := [.int p1, .int p2, .int p3, .long p4, .int p1]) (rest := []) hc k_X6_224 (c_X6_connects l D C _ a0 a1 a2 a3 a4 a5 a6 a7 a8 a9 a10 a11 a12 a13 a14 a15 o_n o_all o_made o_own0 o_own1 o_threatMany o_length u1.2.1 o_tellings o_game o_near o_kept o_isKept o_threatOf o_threatSet o_text o_far o_back u1.2.2.1 o_isWon u1.2.2.2.1 u1.2.2.2.2.1 u1.2.2.2.2.2 o_told p1 p2 p3 p4 p1  _ hu3) ⟨rfl, rfl, Nat.le_of_ble_eq_true rfl, Nat.le_of_ble_eq_true rfl⟩ hP hD hS hA hK [0, 1, 2, 3, 4, 5, 6, 7, 8, 9, 10, 11, 12, 13, 14, 15] [] rfl rfl rfl rfl (by decide) (hP.sub [] rfl) Ap_nil (q0 := 0) rfl rfl rfl hl rfl rfl (Nat.le_of_ble_eq_true rfl) ⟨Nat.zero_le _, Nat.zero_le _⟩ dX6_strengthOf_26 (fun H locs hP hD hS => ?_)
    have hP : va_P D vwCl (wX6 C a0 a1 a2 a3 a4 a5 a6 a7 a8 a9 a10 a11 a12 a13 a14 a15 o_n o_all o_made o_own0 o_own1 o_threatMany o_length u3.2.1 o_tellings o_game o_near o_kept o_isKept o_threatOf o_threatSet o_text o_far o_back u3.2.2.1 o_isWon u3.2.2.2.1 u3.2.2.2.2.1 u3.2.2.2.2.2 o_told) H := hP.sub [0, 1, 2, 3, 4, 5, 6, 7, 8, 9, 10, 11, 12, 13, 14, 15] rfl
    have hD : va_D A (wX6 C a0 a1 a2 a3 a4 a5 a6 a7 a8 a9 a10 a11 a12 a13 a14 a15 o_n o_all o_made o_own0 o_own1 o_threatMany o_length u3.2.1 o_tellings o_game o_near o_kept o_isKept o_threatOf o_threatSet o_text o_far o_back u3.2.2.1 o_isWon u3.2.2.2.1 u3.2.2.2.2.1 u3.2.2.2.2.2 o_told) := hD.sub [0, 1, 2, 3, 4, 5, 6, 7, 8, 9, 10, 11, 12, 13, 14, 15] rfl rfl
    refine lv_if_eq (tgt := 36) hx hb dX6_strengthOf_29 (by decide) (fun c4 => ?_) (fun c4 => ?_)
    · have hf := if_t hf c4
      refine lv_iconst (v := (0 : Int32)) hx hb dX6_strengthOf_36 (by decide) ?_
      have hf := Option.some.inj hf
      subst hf
      exact rWi hc rfl hP hD hS dX6_strengthOf_37
    · have hf := if_f hf c4
      refine lv_iconst (v := (1 : Int32)) hx hb dX6_strengthOf_32 (by decide) ?_
      refine lv_goto (tgt := 37) hx hb dX6_strengthOf_33 (by decide) ?_
      have hf := Option.some.inj hf
      subst hf
      exact rWi hc rfl hP hD hS dX6_strengthOf_37
  · have hf := if_f hf c2
    refine lv_iconst (v := (2 : Int32)) hx hb dX6_strengthOf_15 (by decide) ?_
    refine lv_goto (tgt := 37) hx hb dX6_strengthOf_16 (by decide) ?_
    have hf := Option.some.inj hf
    subst hf
    exact rWi hc rfl hP hD hS dX6_strengthOf_37
abbrev R_X6_strength : Room := { frames := 5, cells := 0, slots := 0, locals := 128 }
def m_X6_strength (o_n : Int32) (o_own0 : Int64) (o_own1 : Int64) (o_holes : Int32) (o_near : Nat → Int64) (o_hole : Nat → Int32) (o_won : Nat → Int32) (o_lasts : Nat → Int32) (o_power : Nat → Int32) (p1 : Int32) (p2 : Int32) (p3 : Int32) (p4 : Int64) : Option (Int32 × Int32 × (Nat → Int32) × (Nat → Int32) × (Nat → Int32) × (Nat → Int32)) := (if (m_X6_arePlaces o_n p1 p2 p3) = 0 then some ((-11 : Int32), o_holes, o_hole, o_won, o_lasts, o_power) else ((m_X6_isRegion o_n o_own0 o_own1 p4 (8 : Int32)).bind fun u2 => (if u2 = 0 then some ((-12 : Int32), o_holes, o_hole, o_won, o_lasts, o_power) else ((m_X6_strengthOf o_n o_own0 o_own1 o_near o_hole o_won o_lasts o_power p1 p2 p3 p4).bind fun u4 => some (u4.1, u4.2.1, u4.2.2.1, u4.2.2.2.1, u4.2.2.2.2.1, u4.2.2.2.2.2)))))
set_option maxHeartbeats 4000000 in
set_option maxRecDepth 100000 in
theorem c_X6_strength (l : Launch) (D : va_G) (C : Nat → ClassId) (sz : Nat) (a0 : Nat) (a1 : Nat) (a2 : Nat) (a3 : Nat) (a4 : Nat) (a5 : Nat) (a6 : Nat) (a7 : Nat) (a8 : Nat) (a9 : Nat) (a10 : Nat) (a11 : Nat) (a12 : Nat) (a13 : Nat) (a14 : Nat) (a15 : Nat) (o_n : Int32) (o_all : Int32) (o_made : Int32) (o_own0 : Int64) (o_own1 : Int64) (o_threatMany : Int32) (o_length : Int32) (o_holes : Int32) (o_tellings : Int32) (o_game : Nat → Int32) (o_near : Nat → Int64) (o_kept : Nat → Int32) (o_isKept : Nat → Int32) (o_threatOf : Nat → Int32) (o_threatSet : Nat → Int64) (o_text : Nat → Int32) (o_far : Nat → Int32) (o_back : Nat → Int32) (o_hole : Nat → Int32) (o_isWon : Nat → Int32) (o_won : Nat → Int32) (o_lasts : Nat → Int32) (o_power : Nat → Int32) (o_told : Nat → Int32) (p1 : Int32) (p2 : Int32) (p3 : Int32) (p4 : Int64) (o : Int32 × Int32 × (Nat → Int32) × (Nat → Int32) × (Nat → Int32) × (Nat → Int32)) (hf : m_X6_strength o_n o_own0 o_own1 o_holes o_near o_hole o_won o_lasts o_power p1 p2 p3 p4 = some o) : Met l yX6_strength (wl yX6_strength cX6_strength 6 (some .int)) R_X6_strength (PW [.ref a0, .int p1, .int p2, .int p3, .long p4] D C sz (wX6 C a0 a1 a2 a3 a4 a5 a6 a7 a8 a9 a10 a11 a12 a13 a14 a15 o_n o_all o_made o_own0 o_own1 o_threatMany o_length o_holes o_tellings o_game o_near o_kept o_isKept o_threatOf o_threatSet o_text o_far o_back o_hole o_isWon o_won o_lasts o_power o_told) ([] : va_W)) (QWi D o.1 (wX6 C a0 a1 a2 a3 a4 a5 a6 a7 a8 a9 a10 a11 a12 a13 a14 a15 o_n o_all o_made o_own0 o_own1 o_threatMany o_length o.2.1 o_tellings o_game o_near o_kept o_isKept o_threatOf o_threatSet o_text o_far o_back o.2.2.1 o_isWon o.2.2.2.1 o.2.2.2.2.1 o.2.2.2.2.2 o_told) (va_A (wX6 C a0 a1 a2 a3 a4 a5 a6 a7 a8 a9 a10 a11 a12 a13 a14 a15 o_n o_all o_made o_own0 o_own1 o_threatMany o_length o_holes o_tellings o_game o_near o_kept o_isKept o_threatOf o_threatSet o_text o_far o_back o_hole o_isWon o_won o_lasts o_power o_told) sz)) 0 0 (va_A (wX6 C a0 a1 a2 a3 a4 a5 a6 a7 a8 a9 a10 a11 a12 a13 a14 a15 o_n o_all o_made o_own0 o_own1 o_threatMany o_length o_holes o_tellings o_game o_near o_kept o_isKept o_threatOf o_threatSet o_text o_far o_back o_hole o_isWon o_won o_lasts o_power o_told) sz) := by
  refine Met_ofC (by decide) ?_
  intro p e s m args below meth c hc hv
  obtain ⟨rfl, hsz, hP, hK, hD0, hO, hN0⟩ := hv
  subst hsz
  have hD := hD0.self (sz := s.heap.size)
  have hN : ∀ q ∈ ([] : va_W), ¬ va_A (wX6 C a0 a1 a2 a3 a4 a5 a6 a7 a8 a9 a10 a11 a12 a13 a14 a15 o_n o_all o_made o_own0 o_own1 o_threatMany o_length o_holes o_tellings o_game o_near o_kept o_isKept o_threatOf o_threatSet o_text o_far o_back o_hole o_isWon o_won o_lasts o_power o_told) s.heap.size q.1 := hN0
  generalize hAe : va_A (wX6 C a0 a1 a2 a3 a4 a5 a6 a7 a8 a9 a10 a11 a12 a13 a14 a15 o_n o_all o_made o_own0 o_own1 o_threatMany o_length o_holes o_tellings o_game o_near o_kept o_isKept o_threatOf o_threatSet o_text o_far o_back o_hole o_isWon o_won o_lasts o_power o_told) s.heap.size = A at hD hN ⊢
  have hA : ∀ q : Nat, s.heap.size ≤ q → A q := fun q h => by rw [← hAe]; exact Or.inr h
  have hS : va_S A s.heap s.heap [] := va_S.rf
  have hx := hc.1
  have hb := hc.2.1
  have hown := hc.2.2.2.2.1
  have hts := hc.2.2.2.2.2.1
  refine en_F rfl (fun ls hl => ?_)
  have hl : lv_has ls 6 [(0, .ref a0), (1, .int p1), (2, .int p2), (3, .int p3), (4, .long p4)] := hl
  refine lv_aload_n hx hb dX6_strength_0 rfl (lv_at hl 0 rfl) ?_
  refine lv_iload_n hx hb dX6_strength_1 rfl (lv_at hl 1 rfl) ?_
  refine lv_iload_n hx hb dX6_strength_2 rfl (lv_at hl 2 rfl) ?_
  refine lv_iload_n hx hb dX6_strength_3 rfl (lv_at hl 3 rfl) ?_
  refine rcVi (As := [.int p1, .int p2, .int p3]) (rest := []) hc k_X6_228 (c_X6_arePlaces l D C a0 o_n a1 o_all o_made o_own0 o_own1 a2 a3 a4 a5 a6 o_threatMany a7 o_length a8 a9 a10 o_holes a11 a12 a13 a14 a15 o_tellings p1 p2 p3  _ rfl) ⟨rfl, rfl, Nat.le_of_ble_eq_true rfl, Nat.le_of_ble_eq_true rfl⟩ (hP.sub [0] rfl) hK (q0 := 0) rfl rfl rfl hl rfl rfl (Nat.le_of_ble_eq_true rfl) ⟨Nat.zero_le _, Nat.zero_le _⟩ dX6_strength_4 ?_
  refine lv_if_ne (tgt := 13) hx hb dX6_strength_7 (by decide) (fun c1 => ?_) (fun c1 => ?_)
  · have hf := if_f hf c1
    refine lv_aload_n hx hb dX6_strength_13 rfl (lv_at hl 0 rfl) ?_
    refine lv_lload hx hb dX6_strength_14 (lv_at hl 4 rfl) ?_
    refine lv_bipush (v := (8 : Int32)) hx hb dX6_strength_16 (by decide) ?_
    obtain ⟨u2, hu2, hf⟩ := bind_some hf
    refine rcVi (As := [.long p4, .int (8 : Int32)]) (rest := []) hc k_X6_231 (c_X6_isRegion l D C a0 o_n a1 o_all o_made o_own0 o_own1 a2 a3 a4 a5 a6 o_threatMany a7 o_length a8 a9 a10 o_holes a11 a12 a13 a14 a15 o_tellings p4 (8 : Int32)  _ hu2) ⟨rfl, rfl, Nat.le_of_ble_eq_true rfl, Nat.le_of_ble_eq_true rfl⟩ (hP.sub [0] rfl) hK (q0 := 0) rfl rfl rfl hl rfl rfl (Nat.le_of_ble_eq_true rfl) ⟨Nat.zero_le _, Nat.zero_le _⟩ dX6_strength_18 ?_
    refine lv_if_eq (tgt := 36) hx hb dX6_strength_21 (by decide) (fun c3 => ?_) (fun c3 => ?_)
    · have hf := if_t hf c3
      refine lv_bipush (v := (-12 : Int32)) hx hb dX6_strength_36 (by decide) ?_
      have hf := Option.some.inj hf
      subst hf
      exact rWi hc rfl hP hD hS dX6_strength_38
    · have hf := if_f hf c3
      refine lv_aload_n hx hb dX6_strength_24 rfl (lv_at hl 0 rfl) ?_
      refine lv_iload_n hx hb dX6_strength_25 rfl (lv_at hl 1 rfl) ?_
      refine lv_iload_n hx hb dX6_strength_26 rfl (lv_at hl 2 rfl) ?_
      refine lv_iload_n hx hb dX6_strength_27 rfl (lv_at hl 3 rfl) ?_
      refine lv_lload hx hb dX6_strength_28 (lv_at hl 4 rfl) ?_
      obtain ⟨u4, hu4, hf⟩ := bind_some hf
      refine wcVi (A := A) (wc := wX6 C a0 a1 a2 a3 a4 a5 a6 a7 a8 a9 a10 a11 a12 a13 a14 a15 o_n o_all o_made o_own0 o_own1 o_threatMany o_length o_holes o_tellings o_game o_near o_kept o_isKept o_threatOf o_threatSet o_text o_far o_back o_hole o_isWon o_won o_lasts o_power o_told) (w1 := wX6 C a0 a1 a2 a3 a4 a5 a6 a7 a8 a9 a10 a11 a12 a13 a14 a15 o_n o_all o_made o_own0 o_own1 o_threatMany o_length u4.2.1 o_tellings o_game o_near o_kept o_isKept o_threatOf o_threatSet o_text o_far o_back u4.2.2.1 o_isWon u4.2.2.2.1 u4.2.2.2.2.1 u4.2.2.2.2.2 o_told) (rc := []) (As := [.int p1, .int p2, .int p3, .long p4]) (rest := []) hc k_X6_234 (c_X6_strengthOf l D C _ a0 a1 a2 a3 a4 a5 a6 a7 a8 a9 a10 a11 a12 a13 a14 a15 o_n o_all o_made o_own0 o_own1 o_threatMany o_length o_holes o_tellings o_game o_near o_kept o_isKept o_threatOf o_threatSet o_text o_far o_back o_hole o_isWon o_won o_lasts o_power o_told p1 p2 p3 p4  _ hu4) ⟨rfl, rfl, Nat.le_of_ble_eq_true rfl, Nat.le_of_ble_eq_true rfl⟩ hP hD hS hA hK [0, 1, 2, 3, 4, 5, 6, 7, 8, 9, 10, 11, 12, 13, 14, 15] [] rfl rfl rfl rfl (by decide) (hP.sub [] rfl) Ap_nil (q0 := 0) rfl rfl rfl hl rfl rfl (Nat.le_of_ble_eq_true rfl) ⟨Nat.zero_le _, Nat.zero_le _⟩ dX6_strength_30 (fun H locs hP hD hS => ?_)
      have hP : va_P D vwCl (wX6 C a0 a1 a2 a3 a4 a5 a6 a7 a8 a9 a10 a11 a12 a13 a14 a15 o_n o_all o_made o_own0 o_own1 o_threatMany o_length u4.2.1 o_tellings o_game o_near o_kept o_isKept o_threatOf o_threatSet o_text o_far o_back u4.2.2.1 o_isWon u4.2.2.2.1 u4.2.2.2.2.1 u4.2.2.2.2.2 o_told) H := hP.sub [0, 1, 2, 3, 4, 5, 6, 7, 8, 9, 10, 11, 12, 13, 14, 15] rfl
      have hD : va_D A (wX6 C a0 a1 a2 a3 a4 a5 a6 a7 a8 a9 a10 a11 a12 a13 a14 a15 o_n o_all o_made o_own0 o_own1 o_threatMany o_length u4.2.1 o_tellings o_game o_near o_kept o_isKept o_threatOf o_threatSet o_text o_far o_back u4.2.2.1 o_isWon u4.2.2.2.1 u4.2.2.2.2.1 u4.2.2.2.2.2 o_told) := hD.sub [0, 1, 2, 3, 4, 5, 6, 7, 8, 9, 10, 11, 12, 13, 14, 15] rfl rfl
      refine lv_goto (tgt := 38) hx hb dX6_strength_33 (by decide) ?_
      have hf := Option.some.inj hf
      subst hf
      exact rWi hc rfl hP hD hS dX6_strength_38
  · have hf := if_t hf c1
    refine lv_bipush (v := (-11 : Int32)) hx hb dX6_strength_10 (by decide) ?_
    have hf := Option.some.inj hf
    subst hf
    exact rWi hc rfl hP hD hS dX6_strength_12
abbrev R_X6_smallestFull : Room := { frames := 4, cells := 0, slots := 0, locals := 103 }
def m_X6_smallestFull_c87 (p4 : Int64) (k38 : Int32 → Int64 → Int32 → Int32 → (Nat → Int32) → (Nat → Int32) → (Nat → Int32) → (Nat → Int32) → Option (Int32 × Int32 × (Nat → Int32) × (Nat → Int32) × (Nat → Int32) × (Nat → Int32))) (v6 : Int32) (v7 : Int64) (t0 : Int32) (o_holes : Int32) (o_hole : Nat → Int32) (o_won : Nat → Int32) (o_lasts : Nat → Int32) (o_power : Nat → Int32) : Option (Int32 × Int32 × (Nat → Int32) × (Nat → Int32) × (Nat → Int32) × (Nat → Int32)) := (k38 v6 ((v7 - (1 : Int64)) &&& p4) t0 o_holes o_hole o_won o_lasts o_power)
set_option maxHeartbeats 4000000 in
set_option maxRecDepth 100000 in
theorem w_X6_smallestFull_c87 {p : Program} {l : Launch} {e : Env} {s : State} {m : MethodId} {args : Array Value} {below : List Frame} {meth : Method} {c : Code} {D : va_G} {C : Nat → ClassId} {A : Nat → Prop} {a0 : Nat} {a1 : Nat} {a2 : Nat} {a3 : Nat} {a4 : Nat} {a5 : Nat} {a6 : Nat} {a7 : Nat} {a8 : Nat} {a9 : Nat} {a10 : Nat} {a11 : Nat} {a12 : Nat} {a13 : Nat} {a14 : Nat} {a15 : Nat} {o_n : Int32} {o_all : Int32} {o_made : Int32} {o_own0 : Int64} {o_own1 : Int64} {o_threatMany : Int32} {o_length : Int32} {o_tellings : Int32} {o_game : Nat → Int32} {o_near : Nat → Int64} {o_kept : Nat → Int32} {o_isKept : Nat → Int32} {o_threatOf : Nat → Int32} {o_threatSet : Nat → Int64} {o_text : Nat → Int32} {o_far : Nat → Int32} {o_back : Nat → Int32} {o_isWon : Nat → Int32} {o_told : Nat → Int32} {p1 : Int32} {p2 : Int32} {p3 : Int32} {p4 : Int64} {o : Int32 × Int32 × (Nat → Int32) × (Nat → Int32) × (Nat → Int32) × (Nat → Int32)} (hc : Cx p s m args meth c yX6_smallestFull cX6_smallestFull 10 (some .int)) (hK : va_K D vwCl (TY C) s) (hA : ∀ q : Nat, s.heap.size ≤ q → A q) (hO : va_P D vwCl ([] : va_W) s.heap) (hN : ∀ q ∈ ([] : va_W), ¬ A q.1) (k38 : Int32 → Int64 → Int32 → Int32 → (Nat → Int32) → (Nat → Int32) → (Nat → Int32) → (Nat → Int32) → Option (Int32 × Int32 × (Nat → Int32) × (Nat → Int32) × (Nat → Int32) × (Nat → Int32))) (hk38 : ∀ (v6 : Int32) (v7 : Int64) (v9 : Int32) (o_holes : Int32) (o_hole : Nat → Int32) (o_won : Nat → Int32) (o_lasts : Nat → Int32) (o_power : Nat → Int32), k38 v6 v7 v9 o_holes o_hole o_won o_lasts o_power = some o → ∀ (H : Heap) (locs : List Loc), va_P D vwCl (wX6 C a0 a1 a2 a3 a4 a5 a6 a7 a8 a9 a10 a11 a12 a13 a14 a15 o_n o_all o_made o_own0 o_own1 o_threatMany o_length o_holes o_tellings o_game o_near o_kept o_isKept o_threatOf o_threatSet o_text o_far o_back o_hole o_isWon o_won o_lasts o_power o_told) H → va_D A (wX6 C a0 a1 a2 a3 a4 a5 a6 a7 a8 a9 a10 a11 a12 a13 a14 a15 o_n o_all o_made o_own0 o_own1 o_threatMany o_length o_holes o_tellings o_game o_near o_kept o_isKept o_threatOf o_threatSet o_text o_far o_back o_hole o_isWon o_won o_lasts o_power o_told) → va_S A s.heap H locs → ∀ (ls : Array Slot), lv_has ls 10 [(0, .ref a0), (1, .int p1), (2, .int p2), (3, .int p3), (4, .long p4), (6, .int v6), (7, .long v7), (9, .int v9)] → W p l e R_X6_smallestFull s m args below meth c H locs 0 0 (MQ below (QWi D o.1 (wX6 C a0 a1 a2 a3 a4 a5 a6 a7 a8 a9 a10 a11 a12 a13 a14 a15 o_n o_all o_made o_own0 o_own1 o_threatMany o_length o.2.1 o_tellings o_game o_near o_kept o_isKept o_threatOf o_threatSet o_text o_far o_back o.2.2.1 o_isWon o.2.2.2.1 o.2.2.2.2.1 o.2.2.2.2.2 o_told) A) args s 0 0 A) (F0 m 38 ls [])) : ∀ (v6 : Int32) (v7 : Int64) (t0 : Int32) (o_holes : Int32) (o_hole : Nat → Int32) (o_won : Nat → Int32) (o_lasts : Nat → Int32) (o_power : Nat → Int32), m_X6_smallestFull_c87 p4 k38 v6 v7 t0 o_holes o_hole o_won o_lasts o_power = some o → ∀ (H : Heap) (locs : List Loc), va_P D vwCl (wX6 C a0 a1 a2 a3 a4 a5 a6 a7 a8 a9 a10 a11 a12 a13 a14 a15 o_n o_all o_made o_own0 o_own1 o_threatMany o_length o_holes o_tellings o_game o_near o_kept o_isKept o_threatOf o_threatSet o_text o_far o_back o_hole o_isWon o_won o_lasts o_power o_told) H → va_D A (wX6 C a0 a1 a2 a3 a4 a5 a6 a7 a8 a9 a10 a11 a12 a13 a14 a15 o_n o_all o_made o_own0 o_own1 o_threatMany o_length o_holes o_tellings o_game o_near o_kept o_isKept o_threatOf o_threatSet o_text o_far o_back o_hole o_isWon o_won o_lasts o_power o_told) → va_S A s.heap H locs → ∀ (ls : Array Slot), lv_has ls 10 [(0, .ref a0), (1, .int p1), (2, .int p2), (3, .int p3), (4, .long p4), (6, .int v6), (7, .long v7)] → W p l e R_X6_smallestFull s m args below meth c H locs 0 0 (MQ below (QWi D o.1 (wX6 C a0 a1 a2 a3 a4 a5 a6 a7 a8 a9 a10 a11 a12 a13 a14 a15 o_n o_all o_made o_own0 o_own1 o_threatMany o_length o.2.1 o_tellings o_game o_near o_kept o_isKept o_threatOf o_threatSet o_text o_far o_back o.2.2.1 o_isWon o.2.2.2.1 o.2.2.2.2.1 o.2.2.2.2.2 o_told) A) args s 0 0 A) (F0 m 87 ls [.int t0]) := by
  have hx := hc.1
  have hb := hc.2.1
  have hown := hc.2.2.2.2.1
  have hts := hc.2.2.2.2.2.1
  intro v6 v7 t0 o_holes o_hole o_won o_lasts o_power hf H locs hP hD hS ls hl
  refine lv_istore (lv' := [(9, .int t0), (0, .ref a0), (1, .int p1), (2, .int p2), (3, .int p3), (4, .long p4), (6, .int v6), (7, .long v7)]) hx hb dX6_smallestFull_87 hl (by decide) rfl (fun ls hl => ?_)
  refine lv_lload hx hb dX6_smallestFull_89 (lv_at hl 7 rfl) ?_
  refine lv_lconst (v := (1 : Int64)) hx hb dX6_smallestFull_91 (by decide) ?_
  refine lv_lsub hx hb dX6_smallestFull_92 ?_
  refine lv_lload hx hb dX6_smallestFull_93 (lv_at hl 5 rfl) ?_
  refine lv_land hx hb dX6_smallestFull_95 ?_
  refine lv_lstore (lv' := [(7, .long ((v7 - (1 : Int64)) &&& p4)), (9, .int t0), (0, .ref a0), (1, .int p1), (2, .int p2), (3, .int p3), (4, .long p4), (6, .int v6)]) hx hb dX6_smallestFull_96 hl (by decide) rfl (fun ls hl => ?_)
  refine lv_goto (tgt := 38) hx hb dX6_smallestFull_98 (by decide) ?_
  exact hk38 v6 ((v7 - (1 : Int64)) &&& p4) t0 o_holes o_hole o_won o_lasts o_power hf _ _ hP hD hS ls (lv_sub hl [2, 3, 4, 5, 6, 7, 0, 1] rfl)
def m_X6_smallestFull_c75 (p4 : Int64) (k38 : Int32 → Int64 → Int32 → Int32 → (Nat → Int32) → (Nat → Int32) → (Nat → Int32) → (Nat → Int32) → Option (Int32 × Int32 × (Nat → Int32) × (Nat → Int32) × (Nat → Int32) × (Nat → Int32))) (v6 : Int32) (v7 : Int64) (o_holes : Int32) (o_hole : Nat → Int32) (o_won : Nat → Int32) (o_lasts : Nat → Int32) (o_power : Nat → Int32) : Option (Int32 × Int32 × (Nat → Int32) × (Nat → Int32) × (Nat → Int32) × (Nat → Int32)) := (if v7 = (0 : Int64) then (m_X6_smallestFull_c87 p4 k38 v6 v7 (0 : Int32) o_holes o_hole o_won o_lasts o_power) else (m_X6_smallestFull_c87 p4 k38 v6 v7 (1 : Int32) o_holes o_hole o_won o_lasts o_power))
set_option maxHeartbeats 4000000 in
set_option maxRecDepth 100000 in
theorem w_X6_smallestFull_c75 {p : Program} {l : Launch} {e : Env} {s : State} {m : MethodId} {args : Array Value} {below : List Frame} {meth : Method} {c : Code} {D : va_G} {C : Nat → ClassId} {A : Nat → Prop} {a0 : Nat} {a1 : Nat} {a2 : Nat} {a3 : Nat} {a4 : Nat} {a5 : Nat} {a6 : Nat} {a7 : Nat} {a8 : Nat} {a9 : Nat} {a10 : Nat} {a11 : Nat} {a12 : Nat} {a13 : Nat} {a14 : Nat} {a15 : Nat} {o_n : Int32} {o_all : Int32} {o_made : Int32} {o_own0 : Int64} {o_own1 : Int64} {o_threatMany : Int32} {o_length : Int32} {o_tellings : Int32} {o_game : Nat → Int32} {o_near : Nat → Int64} {o_kept : Nat → Int32} {o_isKept : Nat → Int32} {o_threatOf : Nat → Int32} {o_threatSet : Nat → Int64} {o_text : Nat → Int32} {o_far : Nat → Int32} {o_back : Nat → Int32} {o_isWon : Nat → Int32} {o_told : Nat → Int32} {p1 : Int32} {p2 : Int32} {p3 : Int32} {p4 : Int64} {o : Int32 × Int32 × (Nat → Int32) × (Nat → Int32) × (Nat → Int32) × (Nat → Int32)} (hc : Cx p s m args meth c yX6_smallestFull cX6_smallestFull 10 (some .int)) (hK : va_K D vwCl (TY C) s) (hA : ∀ q : Nat, s.heap.size ≤ q → A q) (hO : va_P D vwCl ([] : va_W) s.heap) (hN : ∀ q ∈ ([] : va_W), ¬ A q.1) (k38 : Int32 → Int64 → Int32 → Int32 → (Nat → Int32) → (Nat → Int32) → (Nat → Int32) → (Nat → Int32) → Option (Int32 × Int32 × (Nat → Int32) × (Nat → Int32) × (Nat → Int32) × (Nat → Int32))) (hk38 : ∀ (v6 : Int32) (v7 : Int64) (v9 : Int32) (o_holes : Int32) (o_hole : Nat → Int32) (o_won : Nat → Int32) (o_lasts : Nat → Int32) (o_power : Nat → Int32), k38 v6 v7 v9 o_holes o_hole o_won o_lasts o_power = some o → ∀ (H : Heap) (locs : List Loc), va_P D vwCl (wX6 C a0 a1 a2 a3 a4 a5 a6 a7 a8 a9 a10 a11 a12 a13 a14 a15 o_n o_all o_made o_own0 o_own1 o_threatMany o_length o_holes o_tellings o_game o_near o_kept o_isKept o_threatOf o_threatSet o_text o_far o_back o_hole o_isWon o_won o_lasts o_power o_told) H → va_D A (wX6 C a0 a1 a2 a3 a4 a5 a6 a7 a8 a9 a10 a11 a12 a13 a14 a15 o_n o_all o_made o_own0 o_own1 o_threatMany o_length o_holes o_tellings o_game o_near o_kept o_isKept o_threatOf o_threatSet o_text o_far o_back o_hole o_isWon o_won o_lasts o_power o_told) → va_S A s.heap H locs → ∀ (ls : Array Slot), lv_has ls 10 [(0, .ref a0), (1, .int p1), (2, .int p2), (3, .int p3), (4, .long p4), (6, .int v6), (7, .long v7), (9, .int v9)] → W p l e R_X6_smallestFull s m args below meth c H locs 0 0 (MQ below (QWi D o.1 (wX6 C a0 a1 a2 a3 a4 a5 a6 a7 a8 a9 a10 a11 a12 a13 a14 a15 o_n o_all o_made o_own0 o_own1 o_threatMany o_length o.2.1 o_tellings o_game o_near o_kept o_isKept o_threatOf o_threatSet o_text o_far o_back o.2.2.1 o_isWon o.2.2.2.1 o.2.2.2.2.1 o.2.2.2.2.2 o_told) A) args s 0 0 A) (F0 m 38 ls [])) : ∀ (v6 : Int32) (v7 : Int64) (o_holes : Int32) (o_hole : Nat → Int32) (o_won : Nat → Int32) (o_lasts : Nat → Int32) (o_power : Nat → Int32), m_X6_smallestFull_c75 p4 k38 v6 v7 o_holes o_hole o_won o_lasts o_power = some o → ∀ (H : Heap) (locs : List Loc), va_P D vwCl (wX6 C a0 a1 a2 a3 a4 a5 a6 a7 a8 a9 a10 a11 a12 a13 a14 a15 o_n o_all o_made o_own0 o_own1 o_threatMany o_length o_holes o_tellings o_game o_near o_kept o_isKept o_threatOf o_threatSet o_text o_far o_back o_hole o_isWon o_won o_lasts o_power o_told) H → va_D A (wX6 C a0 a1 a2 a3 a4 a5 a6 a7 a8 a9 a10 a11 a12 a13 a14 a15 o_n o_all o_made o_own0 o_own1 o_threatMany o_length o_holes o_tellings o_game o_near o_kept o_isKept o_threatOf o_threatSet o_text o_far o_back o_hole o_isWon o_won o_lasts o_power o_told) → va_S A s.heap H locs → ∀ (ls : Array Slot), lv_has ls 10 [(0, .ref a0), (1, .int p1), (2, .int p2), (3, .int p3), (4, .long p4), (6, .int v6), (7, .long v7)] → W p l e R_X6_smallestFull s m args below meth c H locs 0 0 (MQ below (QWi D o.1 (wX6 C a0 a1 a2 a3 a4 a5 a6 a7 a8 a9 a10 a11 a12 a13 a14 a15 o_n o_all o_made o_own0 o_own1 o_threatMany o_length o.2.1 o_tellings o_game o_near o_kept o_isKept o_threatOf o_threatSet o_text o_far o_back o.2.2.1 o_isWon o.2.2.2.1 o.2.2.2.2.1 o.2.2.2.2.2 o_told) A) args s 0 0 A) (F0 m 75 ls []) := by
  have hx := hc.1
  have hb := hc.2.1
  have hown := hc.2.2.2.2.1
  have hts := hc.2.2.2.2.2.1
  intro v6 v7 o_holes o_hole o_won o_lasts o_power hf H locs hP hD hS ls hl
  refine lv_lload hx hb dX6_smallestFull_75 (lv_at hl 6 rfl) ?_
  refine lv_lconst (v := (0 : Int64)) hx hb dX6_smallestFull_77 (by decide) ?_
  refine lc_eq (tgt := 86) hx hb dX6_smallestFull_78 dX6_smallestFull_79 (by decide) (fun c8 => ?_) (fun c8 => ?_)
  · have hf := if_t hf c8
    refine lv_iconst (v := (0 : Int32)) hx hb dX6_smallestFull_86 (by decide) ?_
    exact w_X6_smallestFull_c87 hc hK hA hO hN k38 hk38 v6 v7 (0 : Int32) o_holes o_hole o_won o_lasts o_power hf _ _ hP hD hS ls (lv_sub hl [0, 1, 2, 3, 4, 5, 6] rfl)
  · have hf := if_f hf c8
    refine lv_iconst (v := (1 : Int32)) hx hb dX6_smallestFull_82 (by decide) ?_
    refine lv_goto (tgt := 87) hx hb dX6_smallestFull_83 (by decide) ?_
    exact w_X6_smallestFull_c87 hc hK hA hO hN k38 hk38 v6 v7 (1 : Int32) o_holes o_hole o_won o_lasts o_power hf _ _ hP hD hS ls (lv_sub hl [0, 1, 2, 3, 4, 5, 6] rfl)
def m_X6_smallestFull_c38 (o_n : Int32) (o_own0 : Int64) (o_own1 : Int64) (o_near : Nat → Int64) (p1 : Int32) (p2 : Int32) (p3 : Int32) (p4 : Int64)  : Nat → Int32 → Int64 → Int32 → Int32 → (Nat → Int32) → (Nat → Int32) → (Nat → Int32) → (Nat → Int32) → Option (Int32 × Int32 × (Nat → Int32) × (Nat → Int32) × (Nat → Int32) × (Nat → Int32))
  | 0, _, _, _, _, _, _, _, _ => none
  | n + 1, v6, v7, v9, o_holes, o_hole, o_won, o_lasts, o_power => (if v9 = 0 then (if v6 = (100 : Int32) then some ((-15 : Int32), o_holes, o_hole, o_won, o_lasts, o_power) else some (v6, o_holes, o_hole, o_won, o_lasts, o_power)) else ((m_X6_size v7).bind fun u6 => (if v6 ≤ u6 then (m_X6_smallestFull_c75 p4 (m_X6_smallestFull_c38 o_n o_own0 o_own1 o_near p1 p2 p3 p4  n) v6 v7 o_holes o_hole o_won o_lasts o_power) else ((m_X6_connects o_n o_own0 o_own1 o_near o_hole o_won o_lasts o_power p1 p2 p3 v7 ((1 : Int32) - p1)).bind fun u9 => (if u9.1 = 0 then (m_X6_smallestFull_c75 p4 (m_X6_smallestFull_c38 o_n o_own0 o_own1 o_near p1 p2 p3 p4  n) v6 v7 u9.2.1 u9.2.2.1 u9.2.2.2.1 u9.2.2.2.2.1 u9.2.2.2.2.2) else ((m_X6_size v7).bind fun u11 => (m_X6_smallestFull_c75 p4 (m_X6_smallestFull_c38 o_n o_own0 o_own1 o_near p1 p2 p3 p4  n) u11 v7 u9.2.1 u9.2.2.1 u9.2.2.2.1 u9.2.2.2.2.1 u9.2.2.2.2.2)))))))
set_option maxHeartbeats 4000000 in
set_option maxRecDepth 100000 in
theorem w_X6_smallestFull_c38 {p : Program} {l : Launch} {e : Env} {s : State} {m : MethodId} {args : Array Value} {below : List Frame} {meth : Method} {c : Code} {D : va_G} {C : Nat → ClassId} {A : Nat → Prop} {a0 : Nat} {a1 : Nat} {a2 : Nat} {a3 : Nat} {a4 : Nat} {a5 : Nat} {a6 : Nat} {a7 : Nat} {a8 : Nat} {a9 : Nat} {a10 : Nat} {a11 : Nat} {a12 : Nat} {a13 : Nat} {a14 : Nat} {a15 : Nat} {o_n : Int32} {o_all : Int32} {o_made : Int32} {o_own0 : Int64} {o_own1 : Int64} {o_threatMany : Int32} {o_length : Int32} {o_tellings : Int32} {o_game : Nat → Int32} {o_near : Nat → Int64} {o_kept : Nat → Int32} {o_isKept : Nat → Int32} {o_threatOf : Nat → Int32} {o_threatSet : Nat → Int64} {o_text : Nat → Int32} {o_far : Nat → Int32} {o_back : Nat → Int32} {o_isWon : Nat → Int32} {o_told : Nat → Int32} {p1 : Int32} {p2 : Int32} {p3 : Int32} {p4 : Int64} {o : Int32 × Int32 × (Nat → Int32) × (Nat → Int32) × (Nat → Int32) × (Nat → Int32)} (hc : Cx p s m args meth c yX6_smallestFull cX6_smallestFull 10 (some .int)) (hK : va_K D vwCl (TY C) s) (hA : ∀ q : Nat, s.heap.size ≤ q → A q) (hO : va_P D vwCl ([] : va_W) s.heap) (hN : ∀ q ∈ ([] : va_W), ¬ A q.1) : ∀ (n : Nat), ∀ (v6 : Int32) (v7 : Int64) (v9 : Int32) (o_holes : Int32) (o_hole : Nat → Int32) (o_won : Nat → Int32) (o_lasts : Nat → Int32) (o_power : Nat → Int32), m_X6_smallestFull_c38 o_n o_own0 o_own1 o_near p1 p2 p3 p4  n v6 v7 v9 o_holes o_hole o_won o_lasts o_power = some o → ∀ (H : Heap) (locs : List Loc), va_P D vwCl (wX6 C a0 a1 a2 a3 a4 a5 a6 a7 a8 a9 a10 a11 a12 a13 a14 a15 o_n o_all o_made o_own0 o_own1 o_threatMany o_length o_holes o_tellings o_game o_near o_kept o_isKept o_threatOf o_threatSet o_text o_far o_back o_hole o_isWon o_won o_lasts o_power o_told) H → va_D A (wX6 C a0 a1 a2 a3 a4 a5 a6 a7 a8 a9 a10 a11 a12 a13 a14 a15 o_n o_all o_made o_own0 o_own1 o_threatMany o_length o_holes o_tellings o_game o_near o_kept o_isKept o_threatOf o_threatSet o_text o_far o_back o_hole o_isWon o_won o_lasts o_power o_told) → va_S A s.heap H locs → ∀ (ls : Array Slot), lv_has ls 10 [(0, .ref a0), (1, .int p1), (2, .int p2), (3, .int p3), (4, .long p4), (6, .int v6), (7, .long v7), (9, .int v9)] → W p l e R_X6_smallestFull s m args below meth c H locs 0 0 (MQ below (QWi D o.1 (wX6 C a0 a1 a2 a3 a4 a5 a6 a7 a8 a9 a10 a11 a12 a13 a14 a15 o_n o_all o_made o_own0 o_own1 o_threatMany o_length o.2.1 o_tellings o_game o_near o_kept o_isKept o_threatOf o_threatSet o_text o_far o_back o.2.2.1 o_isWon o.2.2.2.1 o.2.2.2.2.1 o.2.2.2.2.2 o_told) A) args s 0 0 A) (F0 m 38 ls []) := by
  have hx := hc.1
  have hb := hc.2.1
  have hown := hc.2.2.2.2.1
  have hts := hc.2.2.2.2.2.1
  intro n
  induction n with
  | zero =>
    intro v6 v7 v9 o_holes o_hole o_won o_lasts o_power hf
    exact no_some hf
  | succ n ih =>
    intro v6 v7 v9 o_holes o_hole o_won o_lasts o_power hf H locs hP hD hS ls hl
    refine lv_iload hx hb dX6_smallestFull_38 (lv_at hl 7 rfl) ?_
    refine lv_if_eq (tgt := 101) hx hb dX6_smallestFull_40 (by decide) (fun c4 => ?_) (fun c4 => ?_)
    · have hf := if_t hf c4
      refine lv_iload hx hb dX6_smallestFull_101 (lv_at hl 5 rfl) ?_
      refine lv_bipush (v := (100 : Int32)) hx hb dX6_smallestFull_103 (by decide) ?_
      refine lv_icmp_ne (tgt := 113) hx hb dX6_smallestFull_105 (by decide) (fun c5 => ?_) (fun c5 => ?_)
      · have hf := if_f hf c5
        refine lv_iload hx hb dX6_smallestFull_113 (lv_at hl 5 rfl) ?_
        have hf := Option.some.inj hf
        subst hf
        exact rWi hc rfl hP hD hS dX6_smallestFull_115
      · have hf := if_t hf c5
        refine lv_bipush (v := (-15 : Int32)) hx hb dX6_smallestFull_108 (by decide) ?_
        refine lv_goto (tgt := 115) hx hb dX6_smallestFull_110 (by decide) ?_
        have hf := Option.some.inj hf
        subst hf
        exact rWi hc rfl hP hD hS dX6_smallestFull_115
    · have hf := if_f hf c4
      refine lv_lload hx hb dX6_smallestFull_43 (lv_at hl 6 rfl) ?_
      obtain ⟨u6, hu6, hf⟩ := bind_some hf
      refine rcSi (As := [.long v7]) (rest := []) hc k_X6_164 (c_X6_size l D C v7  _ hu6) ⟨rfl, rfl, Nat.le_of_ble_eq_true rfl, Nat.le_of_ble_eq_true rfl⟩ (hP.sub [] rfl) hK hl rfl rfl (Nat.le_of_ble_eq_true rfl) ⟨Nat.zero_le _, Nat.zero_le _⟩ dX6_smallestFull_45 ?_
      refine lv_iload hx hb dX6_smallestFull_48 (lv_at hl 5 rfl) ?_
      refine lv_icmp_ge (tgt := 75) hx hb dX6_smallestFull_50 (by decide) (fun c7 => ?_) (fun c7 => ?_)
      · have hf := if_t hf c7
        exact w_X6_smallestFull_c75 hc hK hA hO hN (m_X6_smallestFull_c38 o_n o_own0 o_own1 o_near p1 p2 p3 p4  n) ih v6 v7 o_holes o_hole o_won o_lasts o_power hf _ _ hP hD hS ls (lv_sub hl [0, 1, 2, 3, 4, 5, 6] rfl)
      · have hf := if_f hf c7
        refine lv_aload_n hx hb dX6_smallestFull_53 rfl (lv_at hl 0 rfl) ?_
        refine lv_iload_n hx hb dX6_smallestFull_54 rfl (lv_at hl 1 rfl) ?_
        refine lv_iload_n hx hb dX6_smallestFull_55 rfl (lv_at hl 2 rfl) ?_
        refine lv_iload_n hx hb dX6_smallestFull_56 rfl (lv_at hl 3 rfl) ?_
        refine lv_lload hx hb dX6_smallestFull_57 (lv_at hl 6 rfl) ?_
        refine lv_iconst (v := (1 : Int32)) hx hb dX6_smallestFull_59 (by decide) ?_
        refine lv_iload_n hx hb dX6_smallestFull_60 rfl (lv_at hl 1 rfl) ?_
        refine lv_isub hx hb dX6_smallestFull_61 ?_
        obtain ⟨u9, hu9, hf⟩ := bind_some hf
        refine wcVi (A := A) (wc := wX6 C a0 a1 a2 a3 a4 a5 a6 a7 a8 a9 a10 a11 a12 a13 a14 a15 o_n o_all o_made o_own0 o_own1 o_threatMany o_length o_holes o_tellings o_game o_near o_kept o_isKept o_threatOf o_threatSet o_text o_far o_back o_hole o_isWon o_won o_lasts o_power o_told) (w1 := wX6 C a0 a1 a2 a3 a4 a5 a6 a7 a8 a9 a10 a11 a12 a13 a14 a15 o_n o_all o_made o_own0 o_own1 o_threatMany o_length u9.2.1 o_tellings o_game o_near o_kept o_isKept o_threatOf o_threatSet o_text o_far o_back u9.2.2.1 o_isWon u9.2.2.2.1 u9.2.2.2.2.1 u9.2.2.2.2.2 o_told) (rc := []) (As := [.int p1, .int p2, .int p3, .long v7, .int ((1 : Int32) - p1)]) (rest := []) hc k_X6_224 (c_X6_connects l D C _ a0 a1 a2 a3 a4 a5 a6 a7 a8 a9 a10 a11 a12 a13 a14 a15 o_n o_all o_made o_own0 o_own1 o_threatMany o_length o_holes o_tellings o_game o_near o_kept o_isKept o_threatOf o_threatSet o_text o_far o_back o_hole o_isWon o_won o_lasts o_power o_told p1 p2 p3 v7 ((1 : Int32) - p1)  _ hu9) ⟨rfl, rfl, Nat.le_of_ble_eq_true rfl, Nat.le_of_ble_eq_true rfl⟩ hP hD hS hA hK [0, 1, 2, 3, 4, 5, 6, 7, 8, 9, 10, 11, 12, 13, 14, 15] [] rfl rfl rfl rfl (by decide) (hP.sub [] rfl) Ap_nil (q0 := 0) rfl rfl rfl hl rfl rfl (Nat.le_of_ble_eq_true rfl) ⟨Nat.zero_le _, Nat.zero_le _⟩ dX6_smallestFull_62 (fun H locs hP hD hS => ?_)
        have hP : va_P D vwCl (wX6 C a0 a1 a2 a3 a4 a5 a6 a7 a8 a9 a10 a11 a12 a13 a14 a15 o_n o_all o_made o_own0 o_own1 o_threatMany o_length u9.2.1 o_tellings o_game o_near o_kept o_isKept o_threatOf o_threatSet o_text o_far o_back u9.2.2.1 o_isWon u9.2.2.2.1 u9.2.2.2.2.1 u9.2.2.2.2.2 o_told) H := hP.sub [0, 1, 2, 3, 4, 5, 6, 7, 8, 9, 10, 11, 12, 13, 14, 15] rfl
        have hD : va_D A (wX6 C a0 a1 a2 a3 a4 a5 a6 a7 a8 a9 a10 a11 a12 a13 a14 a15 o_n o_all o_made o_own0 o_own1 o_threatMany o_length u9.2.1 o_tellings o_game o_near o_kept o_isKept o_threatOf o_threatSet o_text o_far o_back u9.2.2.1 o_isWon u9.2.2.2.1 u9.2.2.2.2.1 u9.2.2.2.2.2 o_told) := hD.sub [0, 1, 2, 3, 4, 5, 6, 7, 8, 9, 10, 11, 12, 13, 14, 15] rfl rfl
        refine lv_if_eq (tgt := 75) hx hb dX6_smallestFull_65 (by decide) (fun c10 => ?_) (fun c10 => ?_)
        · have hf := if_t hf c10
          exact w_X6_smallestFull_c75 hc hK hA hO hN (m_X6_smallestFull_c38 o_n o_own0 o_own1 o_near p1 p2 p3 p4  n) ih v6 v7 u9.2.1 u9.2.2.1 u9.2.2.2.1 u9.2.2.2.2.1 u9.2.2.2.2.2 hf _ _ hP hD hS ls (lv_sub hl [0, 1, 2, 3, 4, 5, 6] rfl)
        · have hf := if_f hf c10
          refine lv_lload hx hb dX6_smallestFull_68 (lv_at hl 6 rfl) ?_
          obtain ⟨u11, hu11, hf⟩ := bind_some hf
          refine rcSi (As := [.long v7]) (rest := []) hc k_X6_164 (c_X6_size l D C v7  _ hu11) ⟨rfl, rfl, Nat.le_of_ble_eq_true rfl, Nat.le_of_ble_eq_true rfl⟩ (hP.sub [] rfl) hK hl rfl rfl (Nat.le_of_ble_eq_true rfl) ⟨Nat.zero_le _, Nat.zero_le _⟩ dX6_smallestFull_70 ?_
          refine lv_istore (lv' := [(6, .int u11), (0, .ref a0), (1, .int p1), (2, .int p2), (3, .int p3), (4, .long p4), (7, .long v7), (9, .int v9)]) hx hb dX6_smallestFull_73 hl (by decide) rfl (fun ls hl => ?_)
          exact w_X6_smallestFull_c75 hc hK hA hO hN (m_X6_smallestFull_c38 o_n o_own0 o_own1 o_near p1 p2 p3 p4  n) ih u11 v7 u9.2.1 u9.2.2.1 u9.2.2.2.1 u9.2.2.2.2.1 u9.2.2.2.2.2 hf _ _ hP hD hS ls (lv_sub hl [1, 2, 3, 4, 5, 0, 6] rfl)
def m_X6_smallestFull (o_n : Int32) (o_own0 : Int64) (o_own1 : Int64) (o_holes : Int32) (o_near : Nat → Int64) (o_hole : Nat → Int32) (o_won : Nat → Int32) (o_lasts : Nat → Int32) (o_power : Nat → Int32) (p1 : Int32) (p2 : Int32) (p3 : Int32) (p4 : Int64) : Option (Int32 × Int32 × (Nat → Int32) × (Nat → Int32) × (Nat → Int32) × (Nat → Int32)) := (if (m_X6_arePlaces o_n p1 p2 p3) = 0 then some ((-11 : Int32), o_holes, o_hole, o_won, o_lasts, o_power) else ((m_X6_isRegion o_n o_own0 o_own1 p4 (6 : Int32)).bind fun u2 => (if u2 = 0 then some ((-12 : Int32), o_holes, o_hole, o_won, o_lasts, o_power) else (m_X6_smallestFull_c38 o_n o_own0 o_own1 o_near p1 p2 p3 p4 FU (100 : Int32) p4 (1 : Int32) o_holes o_hole o_won o_lasts o_power))))
set_option maxHeartbeats 4000000 in
set_option maxRecDepth 100000 in
theorem c_X6_smallestFull (l : Launch) (D : va_G) (C : Nat → ClassId) (sz : Nat) (a0 : Nat) (a1 : Nat) (a2 : Nat) (a3 : Nat) (a4 : Nat) (a5 : Nat) (a6 : Nat) (a7 : Nat) (a8 : Nat) (a9 : Nat) (a10 : Nat) (a11 : Nat) (a12 : Nat) (a13 : Nat) (a14 : Nat) (a15 : Nat) (o_n : Int32) (o_all : Int32) (o_made : Int32) (o_own0 : Int64) (o_own1 : Int64) (o_threatMany : Int32) (o_length : Int32) (o_holes : Int32) (o_tellings : Int32) (o_game : Nat → Int32) (o_near : Nat → Int64) (o_kept : Nat → Int32) (o_isKept : Nat → Int32) (o_threatOf : Nat → Int32) (o_threatSet : Nat → Int64) (o_text : Nat → Int32) (o_far : Nat → Int32) (o_back : Nat → Int32) (o_hole : Nat → Int32) (o_isWon : Nat → Int32) (o_won : Nat → Int32) (o_lasts : Nat → Int32) (o_power : Nat → Int32) (o_told : Nat → Int32) (p1 : Int32) (p2 : Int32) (p3 : Int32) (p4 : Int64) (o : Int32 × Int32 × (Nat → Int32) × (Nat → Int32) × (Nat → Int32) × (Nat → Int32)) (hf : m_X6_smallestFull o_n o_own0 o_own1 o_holes o_near o_hole o_won o_lasts o_power p1 p2 p3 p4 = some o) : Met l yX6_smallestFull (wl yX6_smallestFull cX6_smallestFull 10 (some .int)) R_X6_smallestFull (PW [.ref a0, .int p1, .int p2, .int p3, .long p4] D C sz (wX6 C a0 a1 a2 a3 a4 a5 a6 a7 a8 a9 a10 a11 a12 a13 a14 a15 o_n o_all o_made o_own0 o_own1 o_threatMany o_length o_holes o_tellings o_game o_near o_kept o_isKept o_threatOf o_threatSet o_text o_far o_back o_hole o_isWon o_won o_lasts o_power o_told) ([] : va_W)) (QWi D o.1 (wX6 C a0 a1 a2 a3 a4 a5 a6 a7 a8 a9 a10 a11 a12 a13 a14 a15 o_n o_all o_made o_own0 o_own1 o_threatMany o_length o.2.1 o_tellings o_game o_near o_kept o_isKept o_threatOf o_threatSet o_text o_far o_back o.2.2.1 o_isWon o.2.2.2.1 o.2.2.2.2.1 o.2.2.2.2.2 o_told) (va_A (wX6 C a0 a1 a2 a3 a4 a5 a6 a7 a8 a9 a10 a11 a12 a13 a14 a15 o_n o_all o_made o_own0 o_own1 o_threatMany o_length o_holes o_tellings o_game o_near o_kept o_isKept o_threatOf o_threatSet o_text o_far o_back o_hole o_isWon o_won o_lasts o_power o_told) sz)) 0 0 (va_A (wX6 C a0 a1 a2 a3 a4 a5 a6 a7 a8 a9 a10 a11 a12 a13 a14 a15 o_n o_all o_made o_own0 o_own1 o_threatMany o_length o_holes o_tellings o_game o_near o_kept o_isKept o_threatOf o_threatSet o_text o_far o_back o_hole o_isWon o_won o_lasts o_power o_told) sz) := by
  refine Met_ofC (by decide) ?_
  intro p e s m args below meth c hc hv
  obtain ⟨rfl, hsz, hP, hK, hD0, hO, hN0⟩ := hv
  subst hsz
  have hD := hD0.self (sz := s.heap.size)
  have hN : ∀ q ∈ ([] : va_W), ¬ va_A (wX6 C a0 a1 a2 a3 a4 a5 a6 a7 a8 a9 a10 a11 a12 a13 a14 a15 o_n o_all o_made o_own0 o_own1 o_threatMany o_length o_holes o_tellings o_game o_near o_kept o_isKept o_threatOf o_threatSet o_text o_far o_back o_hole o_isWon o_won o_lasts o_power o_told) s.heap.size q.1 := hN0
  generalize hAe : va_A (wX6 C a0 a1 a2 a3 a4 a5 a6 a7 a8 a9 a10 a11 a12 a13 a14 a15 o_n o_all o_made o_own0 o_own1 o_threatMany o_length o_holes o_tellings o_game o_near o_kept o_isKept o_threatOf o_threatSet o_text o_far o_back o_hole o_isWon o_won o_lasts o_power o_told) s.heap.size = A at hD hN ⊢
  have hA : ∀ q : Nat, s.heap.size ≤ q → A q := fun q h => by rw [← hAe]; exact Or.inr h
  have hS : va_S A s.heap s.heap [] := va_S.rf
  have hx := hc.1
  have hb := hc.2.1
  have hown := hc.2.2.2.2.1
  have hts := hc.2.2.2.2.2.1
  refine en_F rfl (fun ls hl => ?_)
  have hl : lv_has ls 10 [(0, .ref a0), (1, .int p1), (2, .int p2), (3, .int p3), (4, .long p4)] := hl
  refine lv_aload_n hx hb dX6_smallestFull_0 rfl (lv_at hl 0 rfl) ?_
  refine lv_iload_n hx hb dX6_smallestFull_1 rfl (lv_at hl 1 rfl) ?_
  refine lv_iload_n hx hb dX6_smallestFull_2 rfl (lv_at hl 2 rfl) ?_
  refine lv_iload_n hx hb dX6_smallestFull_3 rfl (lv_at hl 3 rfl) ?_
  refine rcVi (As := [.int p1, .int p2, .int p3]) (rest := []) hc k_X6_228 (c_X6_arePlaces l D C a0 o_n a1 o_all o_made o_own0 o_own1 a2 a3 a4 a5 a6 o_threatMany a7 o_length a8 a9 a10 o_holes a11 a12 a13 a14 a15 o_tellings p1 p2 p3  _ rfl) ⟨rfl, rfl, Nat.le_of_ble_eq_true rfl, Nat.le_of_ble_eq_true rfl⟩ (hP.sub [0] rfl) hK (q0 := 0) rfl rfl rfl hl rfl rfl (Nat.le_of_ble_eq_true rfl) ⟨Nat.zero_le _, Nat.zero_le _⟩ dX6_smallestFull_4 ?_
  refine lv_if_ne (tgt := 13) hx hb dX6_smallestFull_7 (by decide) (fun c1 => ?_) (fun c1 => ?_)
  · have hf := if_f hf c1
    refine lv_aload_n hx hb dX6_smallestFull_13 rfl (lv_at hl 0 rfl) ?_
    refine lv_lload hx hb dX6_smallestFull_14 (lv_at hl 4 rfl) ?_
    refine lv_bipush (v := (6 : Int32)) hx hb dX6_smallestFull_16 (by decide) ?_
    obtain ⟨u2, hu2, hf⟩ := bind_some hf
    refine rcVi (As := [.long p4, .int (6 : Int32)]) (rest := []) hc k_X6_231 (c_X6_isRegion l D C a0 o_n a1 o_all o_made o_own0 o_own1 a2 a3 a4 a5 a6 o_threatMany a7 o_length a8 a9 a10 o_holes a11 a12 a13 a14 a15 o_tellings p4 (6 : Int32)  _ hu2) ⟨rfl, rfl, Nat.le_of_ble_eq_true rfl, Nat.le_of_ble_eq_true rfl⟩ (hP.sub [0] rfl) hK (q0 := 0) rfl rfl rfl hl rfl rfl (Nat.le_of_ble_eq_true rfl) ⟨Nat.zero_le _, Nat.zero_le _⟩ dX6_smallestFull_18 ?_
    refine lv_if_ne (tgt := 27) hx hb dX6_smallestFull_21 (by decide) (fun c3 => ?_) (fun c3 => ?_)
    · have hf := if_f hf c3
      refine lv_bipush (v := (100 : Int32)) hx hb dX6_smallestFull_27 (by decide) ?_
      refine lv_istore (lv' := [(6, .int (100 : Int32)), (0, .ref a0), (1, .int p1), (2, .int p2), (3, .int p3), (4, .long p4)]) hx hb dX6_smallestFull_29 hl (by decide) rfl (fun ls hl => ?_)
      refine lv_lload hx hb dX6_smallestFull_31 (lv_at hl 5 rfl) ?_
      refine lv_lstore (lv' := [(7, .long p4), (6, .int (100 : Int32)), (0, .ref a0), (1, .int p1), (2, .int p2), (3, .int p3), (4, .long p4)]) hx hb dX6_smallestFull_33 hl (by decide) rfl (fun ls hl => ?_)
      refine lv_iconst (v := (1 : Int32)) hx hb dX6_smallestFull_35 (by decide) ?_
      refine lv_istore (lv' := [(9, .int (1 : Int32)), (7, .long p4), (6, .int (100 : Int32)), (0, .ref a0), (1, .int p1), (2, .int p2), (3, .int p3), (4, .long p4)]) hx hb dX6_smallestFull_36 hl (by decide) rfl (fun ls hl => ?_)
      exact w_X6_smallestFull_c38 hc hK hA hO hN  FU (100 : Int32) p4 (1 : Int32) o_holes o_hole o_won o_lasts o_power hf _ _ hP hD hS ls (lv_sub hl [3, 4, 5, 6, 7, 2, 1, 0] rfl)
    · have hf := if_t hf c3
      refine lv_bipush (v := (-12 : Int32)) hx hb dX6_smallestFull_24 (by decide) ?_
      have hf := Option.some.inj hf
      subst hf
      exact rWi hc rfl hP hD hS dX6_smallestFull_26
  · have hf := if_t hf c1
    refine lv_bipush (v := (-11 : Int32)) hx hb dX6_smallestFull_10 (by decide) ?_
    have hf := Option.some.inj hf
    subst hf
    exact rWi hc rfl hP hD hS dX6_smallestFull_12
abbrev R_X6_addThreat : Room := { frames := 4, cells := 0, slots := 0, locals := 103 }
def m_X6_addThreat (o_n : Int32) (o_own0 : Int64) (o_own1 : Int64) (o_threatMany : Int32) (o_holes : Int32) (o_near : Nat → Int64) (o_threatOf : Nat → Int32) (o_threatSet : Nat → Int64) (o_hole : Nat → Int32) (o_won : Nat → Int32) (o_lasts : Nat → Int32) (o_power : Nat → Int32) (p1 : Int32) (p2 : Int64) : Option (Int32 × Int32 × Int32 × (Nat → Int32) × (Nat → Int64) × (Nat → Int32) × (Nat → Int32) × (Nat → Int32) × (Nat → Int32)) := (if (m_X6_isPlayer p1) = 0 then some ((-11 : Int32), o_threatMany, o_holes, o_threatOf, o_threatSet, o_hole, o_won, o_lasts, o_power) else ((m_X6_isRegion o_n o_own0 o_own1 p2 (8 : Int32)).bind fun u2 => (if u2 = 0 then some ((-12 : Int32), o_threatMany, o_holes, o_threatOf, o_threatSet, o_hole, o_won, o_lasts, o_power) else ((m_X6_connects o_n o_own0 o_own1 o_near o_hole o_won o_lasts o_power p1 ((-1 : Int32) - ((2 : Int32) * p1)) ((-2 : Int32) - ((2 : Int32) * p1)) p2 p1).bind fun u4 => (if u4.1 = 0 then some ((-13 : Int32), o_threatMany, u4.2.1, o_threatOf, o_threatSet, u4.2.2.1, u4.2.2.2.1, u4.2.2.2.2.1, u4.2.2.2.2.2) else (if o_threatMany = (6 : Int32) then some ((-14 : Int32), o_threatMany, u4.2.1, o_threatOf, o_threatSet, u4.2.2.1, u4.2.2.2.1, u4.2.2.2.2.1, u4.2.2.2.2.2) else (if okI o_threatMany 6 = true then (if okI o_threatMany 6 = true then some ((o_threatMany + (1 : Int32)), (o_threatMany + (1 : Int32)), u4.2.1, (upd o_threatOf o_threatMany.toNatClampNeg p1), (vp_updL o_threatSet o_threatMany.toNatClampNeg p2), u4.2.2.1, u4.2.2.2.1, u4.2.2.2.2.1, u4.2.2.2.2.2) else none) else none)))))))
set_option maxHeartbeats 4000000 in
set_option maxRecDepth 100000 in
theorem c_X6_addThreat (l : Launch) (D : va_G) (C : Nat → ClassId) (sz : Nat) (a0 : Nat) (a1 : Nat) (a2 : Nat) (a3 : Nat) (a4 : Nat) (a5 : Nat) (a6 : Nat) (a7 : Nat) (a8 : Nat) (a9 : Nat) (a10 : Nat) (a11 : Nat) (a12 : Nat) (a13 : Nat) (a14 : Nat) (a15 : Nat) (o_n : Int32) (o_all : Int32) (o_made : Int32) (o_own0 : Int64) (o_own1 : Int64) (o_threatMany : Int32) (o_length : Int32) (o_holes : Int32) (o_tellings : Int32) (o_game : Nat → Int32) (o_near : Nat → Int64) (o_kept : Nat → Int32) (o_isKept : Nat → Int32) (o_threatOf : Nat → Int32) (o_threatSet : Nat → Int64) (o_text : Nat → Int32) (o_far : Nat → Int32) (o_back : Nat → Int32) (o_hole : Nat → Int32) (o_isWon : Nat → Int32) (o_won : Nat → Int32) (o_lasts : Nat → Int32) (o_power : Nat → Int32) (o_told : Nat → Int32) (p1 : Int32) (p2 : Int64) (o : Int32 × Int32 × Int32 × (Nat → Int32) × (Nat → Int64) × (Nat → Int32) × (Nat → Int32) × (Nat → Int32) × (Nat → Int32)) (hf : m_X6_addThreat o_n o_own0 o_own1 o_threatMany o_holes o_near o_threatOf o_threatSet o_hole o_won o_lasts o_power p1 p2 = some o) : Met l yX6_addThreat (wl yX6_addThreat cX6_addThreat 4 (some .int)) R_X6_addThreat (PW [.ref a0, .int p1, .long p2] D C sz (wX6 C a0 a1 a2 a3 a4 a5 a6 a7 a8 a9 a10 a11 a12 a13 a14 a15 o_n o_all o_made o_own0 o_own1 o_threatMany o_length o_holes o_tellings o_game o_near o_kept o_isKept o_threatOf o_threatSet o_text o_far o_back o_hole o_isWon o_won o_lasts o_power o_told) ([] : va_W)) (QWi D o.1 (wX6 C a0 a1 a2 a3 a4 a5 a6 a7 a8 a9 a10 a11 a12 a13 a14 a15 o_n o_all o_made o_own0 o_own1 o.2.1 o_length o.2.2.1 o_tellings o_game o_near o_kept o_isKept o.2.2.2.1 o.2.2.2.2.1 o_text o_far o_back o.2.2.2.2.2.1 o_isWon o.2.2.2.2.2.2.1 o.2.2.2.2.2.2.2.1 o.2.2.2.2.2.2.2.2 o_told) (va_A (wX6 C a0 a1 a2 a3 a4 a5 a6 a7 a8 a9 a10 a11 a12 a13 a14 a15 o_n o_all o_made o_own0 o_own1 o_threatMany o_length o_holes o_tellings o_game o_near o_kept o_isKept o_threatOf o_threatSet o_text o_far o_back o_hole o_isWon o_won o_lasts o_power o_told) sz)) 0 0 (va_A (wX6 C a0 a1 a2 a3 a4 a5 a6 a7 a8 a9 a10 a11 a12 a13 a14 a15 o_n o_all o_made o_own0 o_own1 o_threatMany o_length o_holes o_tellings o_game o_near o_kept o_isKept o_threatOf o_threatSet o_text o_far o_back o_hole o_isWon o_won o_lasts o_power o_told) sz) := by
  refine Met_ofC (by decide) ?_
  intro p e s m args below meth c hc hv
  obtain ⟨rfl, hsz, hP, hK, hD0, hO, hN0⟩ := hv
  subst hsz
  have hD := hD0.self (sz := s.heap.size)
  have hN : ∀ q ∈ ([] : va_W), ¬ va_A (wX6 C a0 a1 a2 a3 a4 a5 a6 a7 a8 a9 a10 a11 a12 a13 a14 a15 o_n o_all o_made o_own0 o_own1 o_threatMany o_length o_holes o_tellings o_game o_near o_kept o_isKept o_threatOf o_threatSet o_text o_far o_back o_hole o_isWon o_won o_lasts o_power o_told) s.heap.size q.1 := hN0
  generalize hAe : va_A (wX6 C a0 a1 a2 a3 a4 a5 a6 a7 a8 a9 a10 a11 a12 a13 a14 a15 o_n o_all o_made o_own0 o_own1 o_threatMany o_length o_holes o_tellings o_game o_near o_kept o_isKept o_threatOf o_threatSet o_text o_far o_back o_hole o_isWon o_won o_lasts o_power o_told) s.heap.size = A at hD hN ⊢
  have hA : ∀ q : Nat, s.heap.size ≤ q → A q := fun q h => by rw [← hAe]; exact Or.inr h
  have hS : va_S A s.heap s.heap [] := va_S.rf
  have hx := hc.1
  have hb := hc.2.1
  have hown := hc.2.2.2.2.1
  have hts := hc.2.2.2.2.2.1
  refine en_F rfl (fun ls hl => ?_)
  have hl : lv_has ls 4 [(0, .ref a0), (1, .int p1), (2, .long p2)] := hl
  refine lv_iload_n hx hb dX6_addThreat_0 rfl (lv_at hl 1 rfl) ?_
  refine rcSi (As := [.int p1]) (rest := []) hc k_X6_136 (c_X6_isPlayer l D C p1  _ rfl) ⟨rfl, rfl, Nat.le_of_ble_eq_true rfl, Nat.le_of_ble_eq_true rfl⟩ (hP.sub [] rfl) hK hl rfl rfl (Nat.le_of_ble_eq_true rfl) ⟨Nat.zero_le _, Nat.zero_le _⟩ dX6_addThreat_1 ?_
  refine lv_if_ne (tgt := 10) hx hb dX6_addThreat_4 (by decide) (fun c1 => ?_) (fun c1 => ?_)
  · have hf := if_f hf c1
    refine lv_aload_n hx hb dX6_addThreat_10 rfl (lv_at hl 0 rfl) ?_
    refine lv_lload_n hx hb dX6_addThreat_11 rfl (lv_at hl 2 rfl) ?_
    refine lv_bipush (v := (8 : Int32)) hx hb dX6_addThreat_12 (by decide) ?_
    obtain ⟨u2, hu2, hf⟩ := bind_some hf
    refine rcVi (As := [.long p2, .int (8 : Int32)]) (rest := []) hc k_X6_231 (c_X6_isRegion l D C a0 o_n a1 o_all o_made o_own0 o_own1 a2 a3 a4 a5 a6 o_threatMany a7 o_length a8 a9 a10 o_holes a11 a12 a13 a14 a15 o_tellings p2 (8 : Int32)  _ hu2) ⟨rfl, rfl, Nat.le_of_ble_eq_true rfl, Nat.le_of_ble_eq_true rfl⟩ (hP.sub [0] rfl) hK (q0 := 0) rfl rfl rfl hl rfl rfl (Nat.le_of_ble_eq_true rfl) ⟨Nat.zero_le _, Nat.zero_le _⟩ dX6_addThreat_14 ?_
    refine lv_if_ne (tgt := 23) hx hb dX6_addThreat_17 (by decide) (fun c3 => ?_) (fun c3 => ?_)
    · have hf := if_f hf c3
      refine lv_aload_n hx hb dX6_addThreat_23 rfl (lv_at hl 0 rfl) ?_
      refine lv_iload_n hx hb dX6_addThreat_24 rfl (lv_at hl 1 rfl) ?_
      refine lv_iconst (v := (-1 : Int32)) hx hb dX6_addThreat_25 (by decide) ?_
      refine lv_iconst (v := (2 : Int32)) hx hb dX6_addThreat_26 (by decide) ?_
      refine lv_iload_n hx hb dX6_addThreat_27 rfl (lv_at hl 1 rfl) ?_
      refine lv_imul hx hb dX6_addThreat_28 ?_
      refine lv_isub hx hb dX6_addThreat_29 ?_
      refine lv_bipush (v := (-2 : Int32)) hx hb dX6_addThreat_30 (by decide) ?_
      refine lv_iconst (v := (2 : Int32)) hx hb dX6_addThreat_32 (by decide) ?_
      refine lv_iload_n hx hb dX6_addThreat_33 rfl (lv_at hl 1 rfl) ?_
      refine lv_imul hx hb dX6_addThreat_34 ?_
      refine lv_isub hx hb dX6_addThreat_35 ?_
      refine lv_lload_n hx hb dX6_addThreat_36 rfl (lv_at hl 2 rfl) ?_
      refine lv_iload_n hx hb dX6_addThreat_37 rfl (lv_at hl 1 rfl) ?_
      obtain ⟨u4, hu4, hf⟩ := bind_some hf
      refine wcVi (A := A) (wc := wX6 C a0 a1 a2 a3 a4 a5 a6 a7 a8 a9 a10 a11 a12 a13 a14 a15 o_n o_all o_made o_own0 o_own1 o_threatMany o_length o_holes o_tellings o_game o_near o_kept o_isKept o_threatOf o_threatSet o_text o_far o_back o_hole o_isWon o_won o_lasts o_power o_told) (w1 := wX6 C a0 a1 a2 a3 a4 a5 a6 a7 a8 a9 a10 a11 a12 a13 a14 a15 o_n o_all o_made o_own0 o_own1 o_threatMany o_length u4.2.1 o_tellings o_game o_near o_kept o_isKept o_threatOf o_threatSet o_text o_far o_back u4.2.2.1 o_isWon u4.2.2.2.1 u4.2.2.2.2.1 u4.2.2.2.2.2 o_told) (rc := []) (As := [.int p1, .int ((-1 : Int32) - ((2 : Int32) * p1)), .int ((-2 : Int32) - ((2 : Int32) * p1)), .long p2, .int p1]) (rest := []) hc k_X6_224 (c_X6_connects l D C _ a0 a1 a2 a3 a4 a5 a6 a7 a8 a9 a10 a11 a12 a13 a14 a15 o_n o_all o_made o_own0 o_own1 o_threatMany o_length o_holes o_tellings o_game o_near o_kept o_isKept o_threatOf o_threatSet o_text o_far o_back o_hole o_isWon o_won o_lasts o_power o_told p1 ((-1 : Int32) - ((2 : Int32) * p1)) ((-2 : Int32) - ((2 : Int32) * p1)) p2 p1  _ hu4) ⟨rfl, rfl, Nat.le_of_ble_eq_true rfl, Nat.le_of_ble_eq_true rfl⟩ hP hD hS hA hK [0, 1, 2, 3, 4, 5, 6, 7, 8, 9, 10, 11, 12, 13, 14, 15] [] rfl rfl rfl rfl (by decide) (hP.sub [] rfl) Ap_nil (q0 := 0) rfl rfl rfl hl rfl rfl (Nat.le_of_ble_eq_true rfl) ⟨Nat.zero_le _, Nat.zero_le _⟩ dX6_addThreat_38 (fun H locs hP hD hS => ?_)
      have hP : va_P D vwCl (wX6 C a0 a1 a2 a3 a4 a5 a6 a7 a8 a9 a10 a11 a12 a13 a14 a15 o_n o_all o_made o_own0 o_own1 o_threatMany o_length u4.2.1 o_tellings o_game o_near o_kept o_isKept o_threatOf o_threatSet o_text o_far o_back u4.2.2.1 o_isWon u4.2.2.2.1 u4.2.2.2.2.1 u4.2.2.2.2.2 o_told) H := hP.sub [0, 1, 2, 3, 4, 5, 6, 7, 8, 9, 10, 11, 12, 13, 14, 15] rfl
      have hD : va_D A (wX6 C a0 a1 a2 a3 a4 a5 a6 a7 a8 a9 a10 a11 a12 a13 a14 a15 o_n o_all o_made o_own0 o_own1 o_threatMany o_length u4.2.1 o_tellings o_game o_near o_kept o_isKept o_threatOf o_threatSet o_text o_far o_back u4.2.2.1 o_isWon u4.2.2.2.1 u4.2.2.2.2.1 u4.2.2.2.2.2 o_told) := hD.sub [0, 1, 2, 3, 4, 5, 6, 7, 8, 9, 10, 11, 12, 13, 14, 15] rfl rfl
      refine lv_if_ne (tgt := 47) hx hb dX6_addThreat_41 (by decide) (fun c5 => ?_) (fun c5 => ?_)
      · have hf := if_f hf c5
        refine lv_aload_n hx hb dX6_addThreat_47 rfl (lv_at hl 0 rfl) ?_
        refine va_get (D := D) (ci := 6) (v := .int o_threatMany) (C := RX6) (T := TX6) (N := 24) hx hb hts inX6 hown hK hP 0 rfl rfl 11 (by decide) (hts _ q_665) (fun _ h9 => h9) rfl dX6_addThreat_48 ?_
        refine lv_bipush (v := (6 : Int32)) hx hb dX6_addThreat_51 (by decide) ?_
        refine lv_icmp_ne (tgt := 59) hx hb dX6_addThreat_53 (by decide) (fun c6 => ?_) (fun c6 => ?_)
        · have hf := if_f hf c6
          refine lv_aload_n hx hb dX6_addThreat_59 rfl (lv_at hl 0 rfl) ?_
          refine va_get (D := D) (ci := 6) (v := .ref a5) (C := RX6) (T := TX6) (N := 24) hx hb hts inX6 hown hK hP 0 rfl rfl 9 (by decide) (hts _ q_663) (fun _ h9 => h9) rfl dX6_addThreat_60 ?_
          refine lv_aload_n hx hb dX6_addThreat_63 rfl (lv_at hl 0 rfl) ?_
          refine va_get (D := D) (ci := 6) (v := .int o_threatMany) (C := RX6) (T := TX6) (N := 24) hx hb hts inX6 hown hK hP 0 rfl rfl 11 (by decide) (hts _ q_665) (fun _ h9 => h9) rfl dX6_addThreat_64 ?_
          refine lv_iload_n hx hb dX6_addThreat_67 rfl (lv_at hl 1 rfl) ?_
          obtain ⟨h7, hf⟩ := ok_t hf
          refine va_iast hx hb hK hP hD hS 5 0 rfl rfl (okI_in h7) dX6_addThreat_68 (fun H locs hP hD hS => ?_)
          have hP : va_P D vwCl (wX6 C a0 a1 a2 a3 a4 a5 a6 a7 a8 a9 a10 a11 a12 a13 a14 a15 o_n o_all o_made o_own0 o_own1 o_threatMany o_length u4.2.1 o_tellings o_game o_near o_kept o_isKept (upd o_threatOf o_threatMany.toNatClampNeg p1) o_threatSet o_text o_far o_back u4.2.2.1 o_isWon u4.2.2.2.1 u4.2.2.2.2.1 u4.2.2.2.2.2 o_told) H := hP
          have hD : va_D A (wX6 C a0 a1 a2 a3 a4 a5 a6 a7 a8 a9 a10 a11 a12 a13 a14 a15 o_n o_all o_made o_own0 o_own1 o_threatMany o_length u4.2.1 o_tellings o_game o_near o_kept o_isKept (upd o_threatOf o_threatMany.toNatClampNeg p1) o_threatSet o_text o_far o_back u4.2.2.1 o_isWon u4.2.2.2.1 u4.2.2.2.2.1 u4.2.2.2.2.2 o_told) := hD
          refine lv_aload_n hx hb dX6_addThreat_69 rfl (lv_at hl 0 rfl) ?_
          refine va_get (D := D) (ci := 6) (v := .ref a6) (C := RX6) (T := TX6) (N := 24) hx hb hts inX6 hown hK hP 0 rfl rfl 10 (by decide) (hts _ q_664) (fun _ h9 => h9) rfl dX6_addThreat_70 ?_
          refine lv_aload_n hx hb dX6_addThreat_73 rfl (lv_at hl 0 rfl) ?_
          refine va_get (D := D) (ci := 6) (v := .int o_threatMany) (C := RX6) (T := TX6) (N := 24) hx hb hts inX6 hown hK hP 0 rfl rfl 11 (by decide) (hts _ q_665) (fun _ h9 => h9) rfl dX6_addThreat_74 ?_
          refine lv_lload_n hx hb dX6_addThreat_77 rfl (lv_at hl 2 rfl) ?_
          obtain ⟨h8, hf⟩ := ok_t hf
          refine va_last hx hb hK hP hD hS 6 1 rfl rfl (okI_in h8) dX6_addThreat_78 (fun H locs hP hD hS => ?_)
          have hP : va_P D vwCl (wX6 C a0 a1 a2 a3 a4 a5 a6 a7 a8 a9 a10 a11 a12 a13 a14 a15 o_n o_all o_made o_own0 o_own1 o_threatMany o_length u4.2.1 o_tellings o_game o_near o_kept o_isKept (upd o_threatOf o_threatMany.toNatClampNeg p1) (vp_updL o_threatSet o_threatMany.toNatClampNeg p2) o_text o_far o_back u4.2.2.1 o_isWon u4.2.2.2.1 u4.2.2.2.2.1 u4.2.2.2.2.2 o_told) H := hP
          have hD : va_D A (wX6 C a0 a1 a2 a3 a4 a5 a6 a7 a8 a9 a10 a11 a12 a13 a14 a15 o_n o_all o_made o_own0 o_own1 o_threatMany o_length u4.2.1 o_tellings o_game o_near o_kept o_isKept (upd o_threatOf o_threatMany.toNatClampNeg p1) (vp_updL o_threatSet o_threatMany.toNatClampNeg p2) o_text o_far o_back u4.2.2.1 o_isWon u4.2.2.2.1 u4.2.2.2.2.1 u4.2.2.2.2.2 o_told) := hD
          refine lv_aload_n hx hb dX6_addThreat_79 rfl (lv_at hl 0 rfl) ?_
          refine lv_dup hx hb dX6_addThreat_80 rfl ?_
          refine va_get (D := D) (ci := 6) (v := .int o_threatMany) (C := RX6) (T := TX6) (N := 24) hx hb hts inX6 hown hK hP 0 rfl rfl 11 (by decide) (hts _ q_665) (fun _ h9 => h9) rfl dX6_addThreat_81 ?_
          refine lv_iconst (v := (1 : Int32)) hx hb dX6_addThreat_84 (by decide) ?_
          refine lv_iadd hx hb dX6_addThreat_85 ?_
          refine va_put (D := D) (ci := 6) (v := .int (o_threatMany + (1 : Int32))) (ty := .int) (C := RX6) (T := TX6) (N := 24) hx hb hts inX6 tyX6 tyX6_ok nmX6 hown hK hP hD hS 0 rfl rfl 11 (by decide) (hts _ q_665) (fun _ h9 => h9) rfl (by decide +kernel) rfl rfl (Nat.le_of_ble_eq_true rfl) dX6_addThreat_86 (fun H locs hP hD hS => ?_)
          have hP : va_P D vwCl (wX6 C a0 a1 a2 a3 a4 a5 a6 a7 a8 a9 a10 a11 a12 a13 a14 a15 o_n o_all o_made o_own0 o_own1 (o_threatMany + (1 : Int32)) o_length u4.2.1 o_tellings o_game o_near o_kept o_isKept (upd o_threatOf o_threatMany.toNatClampNeg p1) (vp_updL o_threatSet o_threatMany.toNatClampNeg p2) o_text o_far o_back u4.2.2.1 o_isWon u4.2.2.2.1 u4.2.2.2.2.1 u4.2.2.2.2.2 o_told) H := hP
          have hD : va_D A (wX6 C a0 a1 a2 a3 a4 a5 a6 a7 a8 a9 a10 a11 a12 a13 a14 a15 o_n o_all o_made o_own0 o_own1 (o_threatMany + (1 : Int32)) o_length u4.2.1 o_tellings o_game o_near o_kept o_isKept (upd o_threatOf o_threatMany.toNatClampNeg p1) (vp_updL o_threatSet o_threatMany.toNatClampNeg p2) o_text o_far o_back u4.2.2.1 o_isWon u4.2.2.2.1 u4.2.2.2.2.1 u4.2.2.2.2.2 o_told) := hD
          refine lv_aload_n hx hb dX6_addThreat_89 rfl (lv_at hl 0 rfl) ?_
          refine va_get (D := D) (ci := 6) (v := .int (o_threatMany + (1 : Int32))) (C := RX6) (T := TX6) (N := 24) hx hb hts inX6 hown hK hP 0 rfl rfl 11 (by decide) (hts _ q_665) (fun _ h9 => h9) rfl dX6_addThreat_90 ?_
          have hf := Option.some.inj hf
          subst hf
          exact rWi hc rfl hP hD hS dX6_addThreat_93
        · have hf := if_t hf c6
          refine lv_bipush (v := (-14 : Int32)) hx hb dX6_addThreat_56 (by decide) ?_
          have hf := Option.some.inj hf
          subst hf
          exact rWi hc rfl hP hD hS dX6_addThreat_58
      · have hf := if_t hf c5
        refine lv_bipush (v := (-13 : Int32)) hx hb dX6_addThreat_44 (by decide) ?_
        have hf := Option.some.inj hf
        subst hf
        exact rWi hc rfl hP hD hS dX6_addThreat_46
    · have hf := if_t hf c3
      refine lv_bipush (v := (-12 : Int32)) hx hb dX6_addThreat_20 (by decide) ?_
      have hf := Option.some.inj hf
      subst hf
      exact rWi hc rfl hP hD hS dX6_addThreat_22
  · have hf := if_t hf c1
    refine lv_bipush (v := (-11 : Int32)) hx hb dX6_addThreat_7 (by decide) ?_
    have hf := Option.some.inj hf
    subst hf
    exact rWi hc rfl hP hD hS dX6_addThreat_9
abbrev R_X6_clearThreats : Room := { frames := 0, cells := 0, slots := 0, locals := 0 }
def m_X6_clearThreats (o_threatMany : Int32) : Int32 × Int32 := (o_threatMany, (0 : Int32))
set_option maxHeartbeats 4000000 in
set_option maxRecDepth 100000 in
theorem c_X6_clearThreats (l : Launch) (D : va_G) (C : Nat → ClassId) (sz : Nat) (a0 : Nat) (a1 : Nat) (a2 : Nat) (a3 : Nat) (a4 : Nat) (a5 : Nat) (a6 : Nat) (a7 : Nat) (a8 : Nat) (a9 : Nat) (a10 : Nat) (a11 : Nat) (a12 : Nat) (a13 : Nat) (a14 : Nat) (a15 : Nat) (o_n : Int32) (o_all : Int32) (o_made : Int32) (o_own0 : Int64) (o_own1 : Int64) (o_threatMany : Int32) (o_length : Int32) (o_holes : Int32) (o_tellings : Int32) (o_game : Nat → Int32) (o_near : Nat → Int64) (o_kept : Nat → Int32) (o_isKept : Nat → Int32) (o_threatOf : Nat → Int32) (o_threatSet : Nat → Int64) (o_text : Nat → Int32) (o_far : Nat → Int32) (o_back : Nat → Int32) (o_hole : Nat → Int32) (o_isWon : Nat → Int32) (o_won : Nat → Int32) (o_lasts : Nat → Int32) (o_power : Nat → Int32) (o_told : Nat → Int32) (o : Int32 × Int32) (hf : m_X6_clearThreats o_threatMany = o) : Met l yX6_clearThreats (wl yX6_clearThreats cX6_clearThreats 2 (some .int)) R_X6_clearThreats (PW [.ref a0] D C sz (wX6 C a0 a1 a2 a3 a4 a5 a6 a7 a8 a9 a10 a11 a12 a13 a14 a15 o_n o_all o_made o_own0 o_own1 o_threatMany o_length o_holes o_tellings o_game o_near o_kept o_isKept o_threatOf o_threatSet o_text o_far o_back o_hole o_isWon o_won o_lasts o_power o_told) ([] : va_W)) (QWi D o.1 (wX6 C a0 a1 a2 a3 a4 a5 a6 a7 a8 a9 a10 a11 a12 a13 a14 a15 o_n o_all o_made o_own0 o_own1 o.2 o_length o_holes o_tellings o_game o_near o_kept o_isKept o_threatOf o_threatSet o_text o_far o_back o_hole o_isWon o_won o_lasts o_power o_told) (va_A (wX6 C a0 a1 a2 a3 a4 a5 a6 a7 a8 a9 a10 a11 a12 a13 a14 a15 o_n o_all o_made o_own0 o_own1 o_threatMany o_length o_holes o_tellings o_game o_near o_kept o_isKept o_threatOf o_threatSet o_text o_far o_back o_hole o_isWon o_won o_lasts o_power o_told) sz)) 0 0 (va_A (wX6 C a0 a1 a2 a3 a4 a5 a6 a7 a8 a9 a10 a11 a12 a13 a14 a15 o_n o_all o_made o_own0 o_own1 o_threatMany o_length o_holes o_tellings o_game o_near o_kept o_isKept o_threatOf o_threatSet o_text o_far o_back o_hole o_isWon o_won o_lasts o_power o_told) sz) := by
  refine Met_ofC (by decide) ?_
  intro p e s m args below meth c hc hv
  obtain ⟨rfl, hsz, hP, hK, hD0, hO, hN0⟩ := hv
  subst hsz
  have hD := hD0.self (sz := s.heap.size)
  have hN : ∀ q ∈ ([] : va_W), ¬ va_A (wX6 C a0 a1 a2 a3 a4 a5 a6 a7 a8 a9 a10 a11 a12 a13 a14 a15 o_n o_all o_made o_own0 o_own1 o_threatMany o_length o_holes o_tellings o_game o_near o_kept o_isKept o_threatOf o_threatSet o_text o_far o_back o_hole o_isWon o_won o_lasts o_power o_told) s.heap.size q.1 := hN0
  generalize hAe : va_A (wX6 C a0 a1 a2 a3 a4 a5 a6 a7 a8 a9 a10 a11 a12 a13 a14 a15 o_n o_all o_made o_own0 o_own1 o_threatMany o_length o_holes o_tellings o_game o_near o_kept o_isKept o_threatOf o_threatSet o_text o_far o_back o_hole o_isWon o_won o_lasts o_power o_told) s.heap.size = A at hD hN ⊢
  have hA : ∀ q : Nat, s.heap.size ≤ q → A q := fun q h => by rw [← hAe]; exact Or.inr h
  have hS : va_S A s.heap s.heap [] := va_S.rf
  have hx := hc.1
  have hb := hc.2.1
  have hown := hc.2.2.2.2.1
  have hts := hc.2.2.2.2.2.1
  refine en_F rfl (fun ls hl => ?_)
  have hl : lv_has ls 2 [(0, .ref a0)] := hl
  refine lv_aload_n hx hb dX6_clearThreats_0 rfl (lv_at hl 0 rfl) ?_
  refine va_get (D := D) (ci := 6) (v := .int o_threatMany) (C := RX6) (T := TX6) (N := 24) hx hb hts inX6 hown hK hP 0 rfl rfl 11 (by decide) (hts _ q_665) (fun _ h9 => h9) rfl dX6_clearThreats_1 ?_
  refine lv_istore_n (lv' := [(1, .int o_threatMany), (0, .ref a0)]) hx hb dX6_clearThreats_4 rfl hl (by decide) rfl (fun ls hl => ?_)
  refine lv_aload_n hx hb dX6_clearThreats_5 rfl (lv_at hl 1 rfl) ?_
  refine lv_iconst (v := (0 : Int32)) hx hb dX6_clearThreats_6 (by decide) ?_
  refine va_put (D := D) (ci := 6) (v := .int (0 : Int32)) (ty := .int) (C := RX6) (T := TX6) (N := 24) hx hb hts inX6 tyX6 tyX6_ok nmX6 hown hK hP hD hS 0 rfl rfl 11 (by decide) (hts _ q_665) (fun _ h9 => h9) rfl (by decide +kernel) rfl rfl (Nat.le_of_ble_eq_true rfl) dX6_clearThreats_7 (fun H locs hP hD hS => ?_)
  have hP : va_P D vwCl (wX6 C a0 a1 a2 a3 a4 a5 a6 a7 a8 a9 a10 a11 a12 a13 a14 a15 o_n o_all o_made o_own0 o_own1 (0 : Int32) o_length o_holes o_tellings o_game o_near o_kept o_isKept o_threatOf o_threatSet o_text o_far o_back o_hole o_isWon o_won o_lasts o_power o_told) H := hP
  have hD : va_D A (wX6 C a0 a1 a2 a3 a4 a5 a6 a7 a8 a9 a10 a11 a12 a13 a14 a15 o_n o_all o_made o_own0 o_own1 (0 : Int32) o_length o_holes o_tellings o_game o_near o_kept o_isKept o_threatOf o_threatSet o_text o_far o_back o_hole o_isWon o_won o_lasts o_power o_told) := hD
  refine lv_iload_n hx hb dX6_clearThreats_10 rfl (lv_at hl 0 rfl) ?_
  subst hf
  exact rWi hc rfl hP hD hS dX6_clearThreats_11
abbrev R_X6_isThreat : Room := { frames := 1, cells := 0, slots := 0, locals := 21 }
def m_X6_isThreat (o_own0 : Int64) (o_own1 : Int64) (o_threatOf : Nat → Int32) (o_threatSet : Nat → Int64) (p1 : Int32) (p2 : Int32) : Option (Int32) := (if okI p1 6 = true then (if (o_threatOf p1.toNatClampNeg) = p2 then (if okI p1 6 = true then (if ((o_threatSet p1.toNatClampNeg) &&& (m_X6_own o_own0 o_own1 ((1 : Int32) - p2))) = (0 : Int64) then some (1 : Int32) else some (0 : Int32)) else none) else some (0 : Int32)) else none)
set_option maxHeartbeats 4000000 in
set_option maxRecDepth 100000 in
theorem c_X6_isThreat (l : Launch) (D : va_G) (C : Nat → ClassId) (z0 : Nat) (z1 : Nat) (z2 : Nat) (o_n : Int32) (r_o_game : Nat) (o_all : Int32) (o_made : Int32) (o_own0 : Int64) (o_own1 : Int64) (r_o_near : Nat) (r_o_kept : Nat) (r_o_isKept : Nat) (o_threatMany : Int32) (r_o_text : Nat) (o_length : Int32) (r_o_far : Nat) (r_o_back : Nat) (r_o_hole : Nat) (o_holes : Int32) (r_o_isWon : Nat) (r_o_won : Nat) (r_o_lasts : Nat) (r_o_power : Nat) (r_o_told : Nat) (o_tellings : Int32) (o_threatOf : Nat → Int32) (o_threatSet : Nat → Int64) (p1 : Int32) (p2 : Int32) (o : Int32) (hf : m_X6_isThreat o_own0 o_own1 o_threatOf o_threatSet p1 p2 = some o) : Met l yX6_isThreat (wl yX6_isThreat cX6_isThreat 3 (some .boolean)) R_X6_isThreat (PR [.ref z0, .int p1, .int p2] D C [cX6 z0 o_n r_o_game o_all o_made o_own0 o_own1 r_o_near r_o_kept r_o_isKept z1 z2 o_threatMany r_o_text o_length r_o_far r_o_back r_o_hole o_holes r_o_isWon r_o_won r_o_lasts r_o_power r_o_told o_tellings, aI C z1 6 o_threatOf, aJ C z2 6 o_threatSet]) (vp_Si (fun r => r = o)) 0 0 (fun _ => False) := by
  refine Met_ofC (by decide) ?_
  intro p e s m args below meth c hc hv
  obtain ⟨rfl, hP, hK⟩ := hv
  have hx := hc.1
  have hb := hc.2.1
  have hown := hc.2.2.2.2.1
  have hts := hc.2.2.2.2.2.1
  refine en_F rfl (fun ls hl => ?_)
  have hl : lv_has ls 3 [(0, .ref z0), (1, .int p1), (2, .int p2)] := hl
  refine lv_aload_n hx hb dX6_isThreat_0 rfl (lv_at hl 0 rfl) ?_
  refine va_get (D := D) (ci := 6) (v := .ref z1) (C := RX6) (T := TX6) (N := 24) hx hb hts inX6 hown hK hP 0 rfl rfl 9 (by decide) (hts _ q_663) (fun _ h9 => h9) rfl dX6_isThreat_1 ?_
  refine lv_iload_n hx hb dX6_isThreat_4 rfl (lv_at hl 1 rfl) ?_
  obtain ⟨h1, hf⟩ := ok_t hf
  refine va_iald hx hb hK hP 1 0 rfl rfl (okI_in h1) dX6_isThreat_5 ?_
  refine lv_iload_n hx hb dX6_isThreat_6 rfl (lv_at hl 2 rfl) ?_
  refine lv_icmp_ne (tgt := 33) hx hb dX6_isThreat_7 (by decide) (fun c2 => ?_) (fun c2 => ?_)
  · have hf := if_f hf c2
    refine lv_iconst (v := (0 : Int32)) hx hb dX6_isThreat_33 (by decide) ?_
    exact rRz hc rfl (Option.some.inj hf) dX6_isThreat_34
  · have hf := if_t hf c2
    refine lv_aload_n hx hb dX6_isThreat_10 rfl (lv_at hl 0 rfl) ?_
    refine va_get (D := D) (ci := 6) (v := .ref z2) (C := RX6) (T := TX6) (N := 24) hx hb hts inX6 hown hK hP 0 rfl rfl 10 (by decide) (hts _ q_664) (fun _ h9 => h9) rfl dX6_isThreat_11 ?_
    refine lv_iload_n hx hb dX6_isThreat_14 rfl (lv_at hl 1 rfl) ?_
    obtain ⟨h3, hf⟩ := ok_t hf
    refine va_lald hx hb hK hP 2 1 rfl rfl (okI_in h3) dX6_isThreat_15 ?_
    refine lv_aload_n hx hb dX6_isThreat_16 rfl (lv_at hl 0 rfl) ?_
    refine lv_iconst (v := (1 : Int32)) hx hb dX6_isThreat_17 (by decide) ?_
    refine lv_iload_n hx hb dX6_isThreat_18 rfl (lv_at hl 2 rfl) ?_
    refine lv_isub hx hb dX6_isThreat_19 ?_
    refine rcVl (As := [.int ((1 : Int32) - p2)]) (rest := [.long (o_threatSet p1.toNatClampNeg)]) hc k_X6_139 (c_X6_own l D C z0 o_n r_o_game o_all o_made o_own0 o_own1 r_o_near r_o_kept r_o_isKept z1 z2 o_threatMany r_o_text o_length r_o_far r_o_back r_o_hole o_holes r_o_isWon r_o_won r_o_lasts r_o_power r_o_told o_tellings ((1 : Int32) - p2)  _ rfl) ⟨rfl, rfl, Nat.le_of_ble_eq_true rfl, Nat.le_of_ble_eq_true rfl⟩ (hP.sub [0] rfl) hK (q0 := 0) rfl rfl rfl hl rfl rfl (Nat.le_of_ble_eq_true rfl) ⟨Nat.zero_le _, Nat.zero_le _⟩ dX6_isThreat_20 ?_
    refine lv_land hx hb dX6_isThreat_23 ?_
    refine lv_lconst (v := (0 : Int64)) hx hb dX6_isThreat_24 (by decide) ?_
    refine lc_ne (tgt := 33) hx hb dX6_isThreat_25 dX6_isThreat_26 (by decide) (fun c4 => ?_) (fun c4 => ?_)
    · have hf := if_f hf c4
      refine lv_iconst (v := (0 : Int32)) hx hb dX6_isThreat_33 (by decide) ?_
      exact rRz hc rfl (Option.some.inj hf) dX6_isThreat_34
    · have hf := if_t hf c4
      refine lv_iconst (v := (1 : Int32)) hx hb dX6_isThreat_29 (by decide) ?_
      refine lv_goto (tgt := 34) hx hb dX6_isThreat_30 (by decide) ?_
      exact rRz hc rfl (Option.some.inj hf) dX6_isThreat_34
abbrev R_X6_threatsOf : Room := { frames := 2, cells := 0, slots := 0, locals := 43 }
def m_X6_threatsOf_c27  (k4 : Int32 → Int32 → Option (Int32)) (v3 : Int32) (t0 : Int32) (t1 : Int32) : Option (Int32) := (k4 (t1 + t0) (v3 + (1 : Int32)))
set_option maxHeartbeats 4000000 in
set_option maxRecDepth 100000 in
theorem w_X6_threatsOf_c27 {p : Program} {l : Launch} {e : Env} {s : State} {m : MethodId} {args : Array Value} {below : List Frame} {meth : Method} {c : Code} {D : va_G} {C : Nat → ClassId} {z0 : Nat} {z1 : Nat} {z2 : Nat} {o_n : Int32} {r_o_game : Nat} {o_all : Int32} {o_made : Int32} {o_own0 : Int64} {o_own1 : Int64} {r_o_near : Nat} {r_o_kept : Nat} {r_o_isKept : Nat} {o_threatMany : Int32} {r_o_text : Nat} {o_length : Int32} {r_o_far : Nat} {r_o_back : Nat} {r_o_hole : Nat} {o_holes : Int32} {r_o_isWon : Nat} {r_o_won : Nat} {r_o_lasts : Nat} {r_o_power : Nat} {r_o_told : Nat} {o_tellings : Int32} {o_threatOf : Nat → Int32} {o_threatSet : Nat → Int64} {p1 : Int32} {o : Int32} (hc : Cx p s m args meth c yX6_threatsOf cX6_threatsOf 4 (some .int)) (hK : va_K D vwCl (TY C) s) (hP : va_P D vwCl [cX6 z0 o_n r_o_game o_all o_made o_own0 o_own1 r_o_near r_o_kept r_o_isKept z1 z2 o_threatMany r_o_text o_length r_o_far r_o_back r_o_hole o_holes r_o_isWon r_o_won r_o_lasts r_o_power r_o_told o_tellings, aI C z1 6 o_threatOf, aJ C z2 6 o_threatSet] s.heap) (k4 : Int32 → Int32 → Option (Int32)) (hk4 : ∀ (v2 : Int32) (v3 : Int32), k4 v2 v3 = some o → ∀ (ls : Array Slot), lv_has ls 4 [(0, .ref z0), (1, .int p1), (2, .int v2), (3, .int v3)] → W p l e R_X6_threatsOf s m args below meth c s.heap [] 0 0 (MQ below (vp_Si (fun r => r = o)) args s 0 0 (fun _ => False)) (F0 m 4 ls [])) : ∀ (v3 : Int32) (t0 : Int32) (t1 : Int32), m_X6_threatsOf_c27  k4 v3 t0 t1 = some o → ∀ (ls : Array Slot), lv_has ls 4 [(0, .ref z0), (1, .int p1), (3, .int v3)] → W p l e R_X6_threatsOf s m args below meth c s.heap [] 0 0 (MQ below (vp_Si (fun r => r = o)) args s 0 0 (fun _ => False)) (F0 m 27 ls [.int t0, .int t1]) := by
  have hx := hc.1
  have hb := hc.2.1
  have hown := hc.2.2.2.2.1
  have hts := hc.2.2.2.2.2.1
  intro v3 t0 t1 hf ls hl
  refine lv_iadd hx hb dX6_threatsOf_27 ?_
  refine lv_istore_n (lv' := [(2, .int (t1 + t0)), (0, .ref z0), (1, .int p1), (3, .int v3)]) hx hb dX6_threatsOf_28 rfl hl (by decide) rfl (fun ls hl => ?_)
  refine lv_iinc (v := (v3 + (1 : Int32))) (lv' := [(3, .int (v3 + (1 : Int32))), (2, .int (t1 + t0)), (0, .ref z0), (1, .int p1)]) hx hb dX6_threatsOf_29 hl (k := 3) rfl rfl (by decide) rfl (fun ls hl => ?_)
  refine lv_goto (tgt := 4) hx hb dX6_threatsOf_32 (by decide) ?_
  exact hk4 (t1 + t0) (v3 + (1 : Int32)) hf ls (lv_sub hl [2, 3, 1, 0] rfl)
def m_X6_threatsOf_c4 (o_own0 : Int64) (o_own1 : Int64) (o_threatMany : Int32) (o_threatOf : Nat → Int32) (o_threatSet : Nat → Int64) (p1 : Int32)  : Nat → Int32 → Int32 → Option (Int32)
  | 0, _, _ => none
  | n + 1, v2, v3 => (if o_threatMany ≤ v3 then some v2 else ((m_X6_isThreat o_own0 o_own1 o_threatOf o_threatSet v3 p1).bind fun u2 => (if u2 = 0 then (m_X6_threatsOf_c27 (m_X6_threatsOf_c4 o_own0 o_own1 o_threatMany o_threatOf o_threatSet p1  n) v3 (0 : Int32) v2) else (m_X6_threatsOf_c27 (m_X6_threatsOf_c4 o_own0 o_own1 o_threatMany o_threatOf o_threatSet p1  n) v3 (1 : Int32) v2))))
set_option maxHeartbeats 4000000 in
set_option maxRecDepth 100000 in
theorem w_X6_threatsOf_c4 {p : Program} {l : Launch} {e : Env} {s : State} {m : MethodId} {args : Array Value} {below : List Frame} {meth : Method} {c : Code} {D : va_G} {C : Nat → ClassId} {z0 : Nat} {z1 : Nat} {z2 : Nat} {o_n : Int32} {r_o_game : Nat} {o_all : Int32} {o_made : Int32} {o_own0 : Int64} {o_own1 : Int64} {r_o_near : Nat} {r_o_kept : Nat} {r_o_isKept : Nat} {o_threatMany : Int32} {r_o_text : Nat} {o_length : Int32} {r_o_far : Nat} {r_o_back : Nat} {r_o_hole : Nat} {o_holes : Int32} {r_o_isWon : Nat} {r_o_won : Nat} {r_o_lasts : Nat} {r_o_power : Nat} {r_o_told : Nat} {o_tellings : Int32} {o_threatOf : Nat → Int32} {o_threatSet : Nat → Int64} {p1 : Int32} {o : Int32} (hc : Cx p s m args meth c yX6_threatsOf cX6_threatsOf 4 (some .int)) (hK : va_K D vwCl (TY C) s) (hP : va_P D vwCl [cX6 z0 o_n r_o_game o_all o_made o_own0 o_own1 r_o_near r_o_kept r_o_isKept z1 z2 o_threatMany r_o_text o_length r_o_far r_o_back r_o_hole o_holes r_o_isWon r_o_won r_o_lasts r_o_power r_o_told o_tellings, aI C z1 6 o_threatOf, aJ C z2 6 o_threatSet] s.heap) : ∀ (n : Nat), ∀ (v2 : Int32) (v3 : Int32), m_X6_threatsOf_c4 o_own0 o_own1 o_threatMany o_threatOf o_threatSet p1  n v2 v3 = some o → ∀ (ls : Array Slot), lv_has ls 4 [(0, .ref z0), (1, .int p1), (2, .int v2), (3, .int v3)] → W p l e R_X6_threatsOf s m args below meth c s.heap [] 0 0 (MQ below (vp_Si (fun r => r = o)) args s 0 0 (fun _ => False)) (F0 m 4 ls []) := by
  have hx := hc.1
  have hb := hc.2.1
  have hown := hc.2.2.2.2.1
  have hts := hc.2.2.2.2.2.1
  intro n
  induction n with
  | zero =>
    intro v2 v3 hf
    exact no_some hf
  | succ n ih =>
    intro v2 v3 hf ls hl
    refine lv_iload_n hx hb dX6_threatsOf_4 rfl (lv_at hl 3 rfl) ?_
    refine lv_aload_n hx hb dX6_threatsOf_5 rfl (lv_at hl 0 rfl) ?_
    refine va_get (D := D) (ci := 6) (v := .int o_threatMany) (C := RX6) (T := TX6) (N := 24) hx hb hts inX6 hown hK hP 0 rfl rfl 11 (by decide) (hts _ q_665) (fun _ h9 => h9) rfl dX6_threatsOf_6 ?_
    refine lv_icmp_ge (tgt := 35) hx hb dX6_threatsOf_9 (by decide) (fun c1 => ?_) (fun c1 => ?_)
    · have hf := if_t hf c1
      refine lv_iload_n hx hb dX6_threatsOf_35 rfl (lv_at hl 2 rfl) ?_
      exact rRi hc (Option.some.inj hf) dX6_threatsOf_36
    · have hf := if_f hf c1
      refine lv_iload_n hx hb dX6_threatsOf_12 rfl (lv_at hl 2 rfl) ?_
      refine lv_aload_n hx hb dX6_threatsOf_13 rfl (lv_at hl 0 rfl) ?_
      refine lv_iload_n hx hb dX6_threatsOf_14 rfl (lv_at hl 3 rfl) ?_
      refine lv_iload_n hx hb dX6_threatsOf_15 rfl (lv_at hl 1 rfl) ?_
      obtain ⟨u2, hu2, hf⟩ := bind_some hf
      refine rcVi (As := [.int v3, .int p1]) (rest := [.int v2]) hc k_X6_238 (c_X6_isThreat l D C z0 z1 z2 o_n r_o_game o_all o_made o_own0 o_own1 r_o_near r_o_kept r_o_isKept o_threatMany r_o_text o_length r_o_far r_o_back r_o_hole o_holes r_o_isWon r_o_won r_o_lasts r_o_power r_o_told o_tellings o_threatOf o_threatSet v3 p1  _ hu2) ⟨rfl, rfl, Nat.le_of_ble_eq_true rfl, Nat.le_of_ble_eq_true rfl⟩ (hP.sub [0, 1, 2] rfl) hK (q0 := 0) rfl rfl rfl hl rfl rfl (Nat.le_of_ble_eq_true rfl) ⟨Nat.zero_le _, Nat.zero_le _⟩ dX6_threatsOf_16 ?_
      refine lv_if_eq (tgt := 26) hx hb dX6_threatsOf_19 (by decide) (fun c3 => ?_) (fun c3 => ?_)
      · have hf := if_t hf c3
        refine lv_iconst (v := (0 : Int32)) hx hb dX6_threatsOf_26 (by decide) ?_
        exact w_X6_threatsOf_c27 hc hK hP (m_X6_threatsOf_c4 o_own0 o_own1 o_threatMany o_threatOf o_threatSet p1  n) ih v3 (0 : Int32) v2 hf ls (lv_sub hl [0, 1, 3] rfl)
      · have hf := if_f hf c3
        refine lv_iconst (v := (1 : Int32)) hx hb dX6_threatsOf_22 (by decide) ?_
        refine lv_goto (tgt := 27) hx hb dX6_threatsOf_23 (by decide) ?_
        exact w_X6_threatsOf_c27 hc hK hP (m_X6_threatsOf_c4 o_own0 o_own1 o_threatMany o_threatOf o_threatSet p1  n) ih v3 (1 : Int32) v2 hf ls (lv_sub hl [0, 1, 3] rfl)
def m_X6_threatsOf (o_own0 : Int64) (o_own1 : Int64) (o_threatMany : Int32) (o_threatOf : Nat → Int32) (o_threatSet : Nat → Int64) (p1 : Int32) : Option (Int32) := (m_X6_threatsOf_c4 o_own0 o_own1 o_threatMany o_threatOf o_threatSet p1 FU (0 : Int32) (0 : Int32))
set_option maxHeartbeats 4000000 in
set_option maxRecDepth 100000 in
theorem c_X6_threatsOf (l : Launch) (D : va_G) (C : Nat → ClassId) (z0 : Nat) (z1 : Nat) (z2 : Nat) (o_n : Int32) (r_o_game : Nat) (o_all : Int32) (o_made : Int32) (o_own0 : Int64) (o_own1 : Int64) (r_o_near : Nat) (r_o_kept : Nat) (r_o_isKept : Nat) (o_threatMany : Int32) (r_o_text : Nat) (o_length : Int32) (r_o_far : Nat) (r_o_back : Nat) (r_o_hole : Nat) (o_holes : Int32) (r_o_isWon : Nat) (r_o_won : Nat) (r_o_lasts : Nat) (r_o_power : Nat) (r_o_told : Nat) (o_tellings : Int32) (o_threatOf : Nat → Int32) (o_threatSet : Nat → Int64) (p1 : Int32) (o : Int32) (hf : m_X6_threatsOf o_own0 o_own1 o_threatMany o_threatOf o_threatSet p1 = some o) : Met l yX6_threatsOf (wl yX6_threatsOf cX6_threatsOf 4 (some .int)) R_X6_threatsOf (PR [.ref z0, .int p1] D C [cX6 z0 o_n r_o_game o_all o_made o_own0 o_own1 r_o_near r_o_kept r_o_isKept z1 z2 o_threatMany r_o_text o_length r_o_far r_o_back r_o_hole o_holes r_o_isWon r_o_won r_o_lasts r_o_power r_o_told o_tellings, aI C z1 6 o_threatOf, aJ C z2 6 o_threatSet]) (vp_Si (fun r => r = o)) 0 0 (fun _ => False) := by
  refine Met_ofC (by decide) ?_
  intro p e s m args below meth c hc hv
  obtain ⟨rfl, hP, hK⟩ := hv
  have hx := hc.1
  have hb := hc.2.1
  have hown := hc.2.2.2.2.1
  have hts := hc.2.2.2.2.2.1
  refine en_F rfl (fun ls hl => ?_)
  have hl : lv_has ls 4 [(0, .ref z0), (1, .int p1)] := hl
  refine lv_iconst (v := (0 : Int32)) hx hb dX6_threatsOf_0 (by decide) ?_
  refine lv_istore_n (lv' := [(2, .int (0 : Int32)), (0, .ref z0), (1, .int p1)]) hx hb dX6_threatsOf_1 rfl hl (by decide) rfl (fun ls hl => ?_)
  refine lv_iconst (v := (0 : Int32)) hx hb dX6_threatsOf_2 (by decide) ?_
  refine lv_istore_n (lv' := [(3, .int (0 : Int32)), (2, .int (0 : Int32)), (0, .ref z0), (1, .int p1)]) hx hb dX6_threatsOf_3 rfl hl (by decide) rfl (fun ls hl => ?_)
  exact w_X6_threatsOf_c4 hc hK hP  FU (0 : Int32) (0 : Int32) hf ls (lv_sub hl [2, 3, 1, 0] rfl)
abbrev R_X6_threats : Room := { frames := 3, cells := 0, slots := 0, locals := 66 }
def m_X6_threats (o_own0 : Int64) (o_own1 : Int64) (o_threatMany : Int32) (o_threatOf : Nat → Int32) (o_threatSet : Nat → Int64) (p1 : Int32) : Option (Int32) := (if (m_X6_isPlayer p1) = 0 then some (-11 : Int32) else ((m_X6_threatsOf o_own0 o_own1 o_threatMany o_threatOf o_threatSet p1).bind fun u2 => some u2))
set_option maxHeartbeats 4000000 in
set_option maxRecDepth 100000 in
theorem c_X6_threats (l : Launch) (D : va_G) (C : Nat → ClassId) (z0 : Nat) (z1 : Nat) (z2 : Nat) (o_n : Int32) (r_o_game : Nat) (o_all : Int32) (o_made : Int32) (o_own0 : Int64) (o_own1 : Int64) (r_o_near : Nat) (r_o_kept : Nat) (r_o_isKept : Nat) (o_threatMany : Int32) (r_o_text : Nat) (o_length : Int32) (r_o_far : Nat) (r_o_back : Nat) (r_o_hole : Nat) (o_holes : Int32) (r_o_isWon : Nat) (r_o_won : Nat) (r_o_lasts : Nat) (r_o_power : Nat) (r_o_told : Nat) (o_tellings : Int32) (o_threatOf : Nat → Int32) (o_threatSet : Nat → Int64) (p1 : Int32) (o : Int32) (hf : m_X6_threats o_own0 o_own1 o_threatMany o_threatOf o_threatSet p1 = some o) : Met l yX6_threats (wl yX6_threats cX6_threats 2 (some .int)) R_X6_threats (PR [.ref z0, .int p1] D C [cX6 z0 o_n r_o_game o_all o_made o_own0 o_own1 r_o_near r_o_kept r_o_isKept z1 z2 o_threatMany r_o_text o_length r_o_far r_o_back r_o_hole o_holes r_o_isWon r_o_won r_o_lasts r_o_power r_o_told o_tellings, aI C z1 6 o_threatOf, aJ C z2 6 o_threatSet]) (vp_Si (fun r => r = o)) 0 0 (fun _ => False) := by
  refine Met_ofC (by decide) ?_
  intro p e s m args below meth c hc hv
  obtain ⟨rfl, hP, hK⟩ := hv
  have hx := hc.1
  have hb := hc.2.1
  have hown := hc.2.2.2.2.1
  have hts := hc.2.2.2.2.2.1
  refine en_F rfl (fun ls hl => ?_)
  have hl : lv_has ls 2 [(0, .ref z0), (1, .int p1)] := hl
  refine lv_iload_n hx hb dX6_threats_0 rfl (lv_at hl 1 rfl) ?_
  refine rcSi (As := [.int p1]) (rest := []) hc k_X6_136 (c_X6_isPlayer l D C p1  _ rfl) ⟨rfl, rfl, Nat.le_of_ble_eq_true rfl, Nat.le_of_ble_eq_true rfl⟩ (hP.sub [] rfl) hK hl rfl rfl (Nat.le_of_ble_eq_true rfl) ⟨Nat.zero_le _, Nat.zero_le _⟩ dX6_threats_1 ?_
  refine lv_if_eq (tgt := 15) hx hb dX6_threats_4 (by decide) (fun c1 => ?_) (fun c1 => ?_)
  · have hf := if_t hf c1
    refine lv_bipush (v := (-11 : Int32)) hx hb dX6_threats_15 (by decide) ?_
    exact rRi hc (Option.some.inj hf) dX6_threats_17
  · have hf := if_f hf c1
    refine lv_aload_n hx hb dX6_threats_7 rfl (lv_at hl 0 rfl) ?_
    refine lv_iload_n hx hb dX6_threats_8 rfl (lv_at hl 1 rfl) ?_
    obtain ⟨u2, hu2, hf⟩ := bind_some hf
    refine rcVi (As := [.int p1]) (rest := []) hc k_X6_242 (c_X6_threatsOf l D C z0 z1 z2 o_n r_o_game o_all o_made o_own0 o_own1 r_o_near r_o_kept r_o_isKept o_threatMany r_o_text o_length r_o_far r_o_back r_o_hole o_holes r_o_isWon r_o_won r_o_lasts r_o_power r_o_told o_tellings o_threatOf o_threatSet p1  _ hu2) ⟨rfl, rfl, Nat.le_of_ble_eq_true rfl, Nat.le_of_ble_eq_true rfl⟩ (hP.sub [0, 1, 2] rfl) hK (q0 := 0) rfl rfl rfl hl rfl rfl (Nat.le_of_ble_eq_true rfl) ⟨Nat.zero_le _, Nat.zero_le _⟩ dX6_threats_9 ?_
    refine lv_goto (tgt := 17) hx hb dX6_threats_12 (by decide) ?_
    exact rRi hc (Option.some.inj hf) dX6_threats_17
abbrev R_X6_neededOf : Room := { frames := 3, cells := 0, slots := 0, locals := 66 }
def m_X6_neededOf_c41  (k8 : Int64 → Int32 → Option (Int64)) (v4 : Int32) (t0 : Int64) (t1 : Int64) : Option (Int64) := (k8 (t1 &&& t0) (v4 + (1 : Int32)))
set_option maxHeartbeats 4000000 in
set_option maxRecDepth 100000 in
theorem w_X6_neededOf_c41 {p : Program} {l : Launch} {e : Env} {s : State} {m : MethodId} {args : Array Value} {below : List Frame} {meth : Method} {c : Code} {D : va_G} {C : Nat → ClassId} {z0 : Nat} {z1 : Nat} {z2 : Nat} {o_n : Int32} {r_o_game : Nat} {o_all : Int32} {o_made : Int32} {o_own0 : Int64} {o_own1 : Int64} {r_o_near : Nat} {r_o_kept : Nat} {r_o_isKept : Nat} {o_threatMany : Int32} {r_o_text : Nat} {o_length : Int32} {r_o_far : Nat} {r_o_back : Nat} {r_o_hole : Nat} {o_holes : Int32} {r_o_isWon : Nat} {r_o_won : Nat} {r_o_lasts : Nat} {r_o_power : Nat} {r_o_told : Nat} {o_tellings : Int32} {o_threatOf : Nat → Int32} {o_threatSet : Nat → Int64} {p1 : Int32} {o : Int64} (hc : Cx p s m args meth c yX6_neededOf cX6_neededOf 5 (some .long)) (hK : va_K D vwCl (TY C) s) (hP : va_P D vwCl [cX6 z0 o_n r_o_game o_all o_made o_own0 o_own1 r_o_near r_o_kept r_o_isKept z1 z2 o_threatMany r_o_text o_length r_o_far r_o_back r_o_hole o_holes r_o_isWon r_o_won r_o_lasts r_o_power r_o_told o_tellings, aI C z1 6 o_threatOf, aJ C z2 6 o_threatSet] s.heap) (k8 : Int64 → Int32 → Option (Int64)) (hk8 : ∀ (v2 : Int64) (v4 : Int32), k8 v2 v4 = some o → ∀ (ls : Array Slot), lv_has ls 5 [(0, .ref z0), (1, .int p1), (2, .long v2), (4, .int v4)] → W p l e R_X6_neededOf s m args below meth c s.heap [] 0 0 (MQ below (vp_Sl (fun r => r = o)) args s 0 0 (fun _ => False)) (F0 m 8 ls [])) : ∀ (v4 : Int32) (t0 : Int64) (t1 : Int64), m_X6_neededOf_c41  k8 v4 t0 t1 = some o → ∀ (ls : Array Slot), lv_has ls 5 [(0, .ref z0), (1, .int p1), (4, .int v4)] → W p l e R_X6_neededOf s m args below meth c s.heap [] 0 0 (MQ below (vp_Sl (fun r => r = o)) args s 0 0 (fun _ => False)) (F0 m 41 ls [.long t0, .long t1]) := by
  have hx := hc.1
  have hb := hc.2.1
  have hown := hc.2.2.2.2.1
  have hts := hc.2.2.2.2.2.1
  intro v4 t0 t1 hf ls hl
  refine lv_land hx hb dX6_neededOf_41 ?_
  refine lv_lstore_n (lv' := [(2, .long (t1 &&& t0)), (0, .ref z0), (1, .int p1), (4, .int v4)]) hx hb dX6_neededOf_42 rfl hl (by decide) rfl (fun ls hl => ?_)
  refine lv_iinc (v := (v4 + (1 : Int32))) (lv' := [(4, .int (v4 + (1 : Int32))), (2, .long (t1 &&& t0)), (0, .ref z0), (1, .int p1)]) hx hb dX6_neededOf_43 hl (k := 3) rfl rfl (by decide) rfl (fun ls hl => ?_)
  refine lv_goto (tgt := 8) hx hb dX6_neededOf_46 (by decide) ?_
  exact hk8 (t1 &&& t0) (v4 + (1 : Int32)) hf ls (lv_sub hl [2, 3, 1, 0] rfl)
def m_X6_neededOf_c8 (o_own0 : Int64) (o_own1 : Int64) (o_threatMany : Int32) (o_threatOf : Nat → Int32) (o_threatSet : Nat → Int64) (p1 : Int32)  : Nat → Int64 → Int32 → Option (Int64)
  | 0, _, _ => none
  | n + 1, v2, v4 => (if o_threatMany ≤ v4 then ((m_X6_threatsOf o_own0 o_own1 o_threatMany o_threatOf o_threatSet p1).bind fun u2 => (if u2 = 0 then some (-15 : Int64) else some v2)) else ((m_X6_isThreat o_own0 o_own1 o_threatOf o_threatSet v4 p1).bind fun u4 => (if u4 = 0 then (m_X6_neededOf_c41 (m_X6_neededOf_c8 o_own0 o_own1 o_threatMany o_threatOf o_threatSet p1  n) v4 (-1 : Int64) v2) else (if okI v4 6 = true then (m_X6_neededOf_c41 (m_X6_neededOf_c8 o_own0 o_own1 o_threatMany o_threatOf o_threatSet p1  n) v4 (o_threatSet v4.toNatClampNeg) v2) else none))))
set_option maxHeartbeats 4000000 in
set_option maxRecDepth 100000 in
theorem w_X6_neededOf_c8 {p : Program} {l : Launch} {e : Env} {s : State} {m : MethodId} {args : Array Value} {below : List Frame} {meth : Method} {c : Code} {D : va_G} {C : Nat → ClassId} {z0 : Nat} {z1 : Nat} {z2 : Nat} {o_n : Int32} {r_o_game : Nat} {o_all : Int32} {o_made : Int32} {o_own0 : Int64} {o_own1 : Int64} {r_o_near : Nat} {r_o_kept : Nat} {r_o_isKept : Nat} {o_threatMany : Int32} {r_o_text : Nat} {o_length : Int32} {r_o_far : Nat} {r_o_back : Nat} {r_o_hole : Nat} {o_holes : Int32} {r_o_isWon : Nat} {r_o_won : Nat} {r_o_lasts : Nat} {r_o_power : Nat} {r_o_told : Nat} {o_tellings : Int32} {o_threatOf : Nat → Int32} {o_threatSet : Nat → Int64} {p1 : Int32} {o : Int64} (hc : Cx p s m args meth c yX6_neededOf cX6_neededOf 5 (some .long)) (hK : va_K D vwCl (TY C) s) (hP : va_P D vwCl [cX6 z0 o_n r_o_game o_all o_made o_own0 o_own1 r_o_near r_o_kept r_o_isKept z1 z2 o_threatMany r_o_text o_length r_o_far r_o_back r_o_hole o_holes r_o_isWon r_o_won r_o_lasts r_o_power r_o_told o_tellings, aI C z1 6 o_threatOf, aJ C z2 6 o_threatSet] s.heap) : ∀ (n : Nat), ∀ (v2 : Int64) (v4 : Int32), m_X6_neededOf_c8 o_own0 o_own1 o_threatMany o_threatOf o_threatSet p1  n v2 v4 = some o → ∀ (ls : Array Slot), lv_has ls 5 [(0, .ref z0), (1, .int p1), (2, .long v2), (4, .int v4)] → W p l e R_X6_neededOf s m args below meth c s.heap [] 0 0 (MQ below (vp_Sl (fun r => r = o)) args s 0 0 (fun _ => False)) (F0 m 8 ls []) := by
  have hx := hc.1
  have hb := hc.2.1
  have hown := hc.2.2.2.2.1
  have hts := hc.2.2.2.2.2.1
  intro n
  induction n with
  | zero =>
    intro v2 v4 hf
    exact no_some hf
  | succ n ih =>
    intro v2 v4 hf ls hl
    refine lv_iload hx hb dX6_neededOf_8 (lv_at hl 3 rfl) ?_
    refine lv_aload_n hx hb dX6_neededOf_10 rfl (lv_at hl 0 rfl) ?_
    refine va_get (D := D) (ci := 6) (v := .int o_threatMany) (C := RX6) (T := TX6) (N := 24) hx hb hts inX6 hown hK hP 0 rfl rfl 11 (by decide) (hts _ q_665) (fun _ h9 => h9) rfl dX6_neededOf_11 ?_
    refine lv_icmp_ge (tgt := 49) hx hb dX6_neededOf_14 (by decide) (fun c1 => ?_) (fun c1 => ?_)
    · have hf := if_t hf c1
      refine lv_aload_n hx hb dX6_neededOf_49 rfl (lv_at hl 0 rfl) ?_
      refine lv_iload_n hx hb dX6_neededOf_50 rfl (lv_at hl 1 rfl) ?_
      obtain ⟨u2, hu2, hf⟩ := bind_some hf
      refine rcVi (As := [.int p1]) (rest := []) hc k_X6_242 (c_X6_threatsOf l D C z0 z1 z2 o_n r_o_game o_all o_made o_own0 o_own1 r_o_near r_o_kept r_o_isKept o_threatMany r_o_text o_length r_o_far r_o_back r_o_hole o_holes r_o_isWon r_o_won r_o_lasts r_o_power r_o_told o_tellings o_threatOf o_threatSet p1  _ hu2) ⟨rfl, rfl, Nat.le_of_ble_eq_true rfl, Nat.le_of_ble_eq_true rfl⟩ (hP.sub [0, 1, 2] rfl) hK (q0 := 0) rfl rfl rfl hl rfl rfl (Nat.le_of_ble_eq_true rfl) ⟨Nat.zero_le _, Nat.zero_le _⟩ dX6_neededOf_51 ?_
      refine lv_if_ne (tgt := 63) hx hb dX6_neededOf_54 (by decide) (fun c3 => ?_) (fun c3 => ?_)
      · have hf := if_f hf c3
        refine lv_lload_n hx hb dX6_neededOf_63 rfl (lv_at hl 2 rfl) ?_
        exact rRl hc (Option.some.inj hf) dX6_neededOf_64
      · have hf := if_t hf c3
        refine lv_ldc2 (v := (-15 : Int64)) hx hb hown (hts _ q_871) dX6_neededOf_57 ?_
        refine lv_goto (tgt := 64) hx hb dX6_neededOf_60 (by decide) ?_
        exact rRl hc (Option.some.inj hf) dX6_neededOf_64
    · have hf := if_f hf c1
      refine lv_lload_n hx hb dX6_neededOf_17 rfl (lv_at hl 2 rfl) ?_
      refine lv_aload_n hx hb dX6_neededOf_18 rfl (lv_at hl 0 rfl) ?_
      refine lv_iload hx hb dX6_neededOf_19 (lv_at hl 3 rfl) ?_
      refine lv_iload_n hx hb dX6_neededOf_21 rfl (lv_at hl 1 rfl) ?_
      obtain ⟨u4, hu4, hf⟩ := bind_some hf
      refine rcVi (As := [.int v4, .int p1]) (rest := [.long v2]) hc k_X6_238 (c_X6_isThreat l D C z0 z1 z2 o_n r_o_game o_all o_made o_own0 o_own1 r_o_near r_o_kept r_o_isKept o_threatMany r_o_text o_length r_o_far r_o_back r_o_hole o_holes r_o_isWon r_o_won r_o_lasts r_o_power r_o_told o_tellings o_threatOf o_threatSet v4 p1  _ hu4) ⟨rfl, rfl, Nat.le_of_ble_eq_true rfl, Nat.le_of_ble_eq_true rfl⟩ (hP.sub [0, 1, 2] rfl) hK (q0 := 0) rfl rfl rfl hl rfl rfl (Nat.le_of_ble_eq_true rfl) ⟨Nat.zero_le _, Nat.zero_le _⟩ dX6_neededOf_22 ?_
      refine lv_if_eq (tgt := 38) hx hb dX6_neededOf_25 (by decide) (fun c5 => ?_) (fun c5 => ?_)
      · have hf := if_t hf c5
        refine lv_ldc2 (v := (-1 : Int64)) hx hb hown (hts _ q_760) dX6_neededOf_38 ?_
        exact w_X6_neededOf_c41 hc hK hP (m_X6_neededOf_c8 o_own0 o_own1 o_threatMany o_threatOf o_threatSet p1  n) ih v4 (-1 : Int64) v2 hf ls (lv_sub hl [0, 1, 3] rfl)
      · have hf := if_f hf c5
        refine lv_aload_n hx hb dX6_neededOf_28 rfl (lv_at hl 0 rfl) ?_
        refine va_get (D := D) (ci := 6) (v := .ref z2) (C := RX6) (T := TX6) (N := 24) hx hb hts inX6 hown hK hP 0 rfl rfl 10 (by decide) (hts _ q_664) (fun _ h9 => h9) rfl dX6_neededOf_29 ?_
        refine lv_iload hx hb dX6_neededOf_32 (lv_at hl 3 rfl) ?_
        obtain ⟨h6, hf⟩ := ok_t hf
        refine va_lald hx hb hK hP 2 1 rfl rfl (okI_in h6) dX6_neededOf_34 ?_
        refine lv_goto (tgt := 41) hx hb dX6_neededOf_35 (by decide) ?_
        exact w_X6_neededOf_c41 hc hK hP (m_X6_neededOf_c8 o_own0 o_own1 o_threatMany o_threatOf o_threatSet p1  n) ih v4 (o_threatSet v4.toNatClampNeg) v2 hf ls (lv_sub hl [0, 1, 3] rfl)
def m_X6_neededOf (o_n : Int32) (o_own0 : Int64) (o_own1 : Int64) (o_threatMany : Int32) (o_threatOf : Nat → Int32) (o_threatSet : Nat → Int64) (p1 : Int32) : Option (Int64) := (m_X6_neededOf_c8 o_own0 o_own1 o_threatMany o_threatOf o_threatSet p1 FU (m_X6_free o_n o_own0 o_own1) (0 : Int32))
set_option maxHeartbeats 4000000 in
set_option maxRecDepth 100000 in
theorem c_X6_neededOf (l : Launch) (D : va_G) (C : Nat → ClassId) (z0 : Nat) (z1 : Nat) (z2 : Nat) (o_n : Int32) (r_o_game : Nat) (o_all : Int32) (o_made : Int32) (o_own0 : Int64) (o_own1 : Int64) (r_o_near : Nat) (r_o_kept : Nat) (r_o_isKept : Nat) (o_threatMany : Int32) (r_o_text : Nat) (o_length : Int32) (r_o_far : Nat) (r_o_back : Nat) (r_o_hole : Nat) (o_holes : Int32) (r_o_isWon : Nat) (r_o_won : Nat) (r_o_lasts : Nat) (r_o_power : Nat) (r_o_told : Nat) (o_tellings : Int32) (o_threatOf : Nat → Int32) (o_threatSet : Nat → Int64) (p1 : Int32) (o : Int64) (hf : m_X6_neededOf o_n o_own0 o_own1 o_threatMany o_threatOf o_threatSet p1 = some o) : Met l yX6_neededOf (wl yX6_neededOf cX6_neededOf 5 (some .long)) R_X6_neededOf (PR [.ref z0, .int p1] D C [cX6 z0 o_n r_o_game o_all o_made o_own0 o_own1 r_o_near r_o_kept r_o_isKept z1 z2 o_threatMany r_o_text o_length r_o_far r_o_back r_o_hole o_holes r_o_isWon r_o_won r_o_lasts r_o_power r_o_told o_tellings, aI C z1 6 o_threatOf, aJ C z2 6 o_threatSet]) (vp_Sl (fun r => r = o)) 0 0 (fun _ => False) := by
  refine Met_ofC (by decide) ?_
  intro p e s m args below meth c hc hv
  obtain ⟨rfl, hP, hK⟩ := hv
  have hx := hc.1
  have hb := hc.2.1
  have hown := hc.2.2.2.2.1
  have hts := hc.2.2.2.2.2.1
  refine en_F rfl (fun ls hl => ?_)
  have hl : lv_has ls 5 [(0, .ref z0), (1, .int p1)] := hl
  refine lv_aload_n hx hb dX6_neededOf_0 rfl (lv_at hl 0 rfl) ?_
  refine rcVl (As := []) (rest := []) hc k_X6_126 (c_X6_free l D C z0 o_n r_o_game o_all o_made o_own0 o_own1 r_o_near r_o_kept r_o_isKept z1 z2 o_threatMany r_o_text o_length r_o_far r_o_back r_o_hole o_holes r_o_isWon r_o_won r_o_lasts r_o_power r_o_told o_tellings  _ rfl) ⟨rfl, rfl, Nat.le_of_ble_eq_true rfl, Nat.le_of_ble_eq_true rfl⟩ (hP.sub [0] rfl) hK (q0 := 0) rfl rfl rfl hl rfl rfl (Nat.le_of_ble_eq_true rfl) ⟨Nat.zero_le _, Nat.zero_le _⟩ dX6_neededOf_1 ?_
  refine lv_lstore_n (lv' := [(2, .long (m_X6_free o_n o_own0 o_own1)), (0, .ref z0), (1, .int p1)]) hx hb dX6_neededOf_4 rfl hl (by decide) rfl (fun ls hl => ?_)
  refine lv_iconst (v := (0 : Int32)) hx hb dX6_neededOf_5 (by decide) ?_
  refine lv_istore (lv' := [(4, .int (0 : Int32)), (2, .long (m_X6_free o_n o_own0 o_own1)), (0, .ref z0), (1, .int p1)]) hx hb dX6_neededOf_6 hl (by decide) rfl (fun ls hl => ?_)
  exact w_X6_neededOf_c8 hc hK hP  FU (m_X6_free o_n o_own0 o_own1) (0 : Int32) hf ls (lv_sub hl [2, 3, 1, 0] rfl)

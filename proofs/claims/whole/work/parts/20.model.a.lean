abbrev R_X6_in : Room := { frames := 0, cells := 0, slots := 0, locals := 0 }
def m_X6_in (p0 : Int32) (p1 : Int32) (p2 : Int32) : Int32 := (if p0 < p1 then (0 : Int32) else (if p2 < p0 then (0 : Int32) else (1 : Int32)))
set_option maxHeartbeats 4000000 in
set_option maxRecDepth 100000 in
theorem c_X6_in (l : Launch) (D : va_G) (C : Nat → ClassId) (p0 : Int32) (p1 : Int32) (p2 : Int32) (o : Int32) (hf : m_X6_in p0 p1 p2 = o) : Met l yX6_in (wl yX6_in cX6_in 3 (some .boolean)) R_X6_in (PR [.int p0, .int p1, .int p2] D C ([] : va_W)) (vp_Si (fun r => r = o)) 0 0 (fun _ => False) := by
  refine Met_ofC (by decide) ?_
  intro p e s m args below meth c hc hv
  obtain ⟨rfl, hP, hK⟩ := hv
  have hx := hc.1
  have hb := hc.2.1
  have hown := hc.2.2.2.2.1
  have hts := hc.2.2.2.2.2.1
  refine en_F rfl (fun ls hl => ?_)
  have hl : lv_has ls 3 [(0, .int p0), (1, .int p1), (2, .int p2)] := hl
  refine lv_iload_n hx hb dX6_in_0 rfl (lv_at hl 0 rfl) ?_
  refine lv_iload_n hx hb dX6_in_1 rfl (lv_at hl 1 rfl) ?_
  refine lv_icmp_lt (tgt := 14) hx hb dX6_in_2 (by decide) (fun c1 => ?_) (fun c1 => ?_)
  · have hf := if_t hf c1
    refine lv_iconst (v := (0 : Int32)) hx hb dX6_in_14 (by decide) ?_
    exact rRz hc rfl hf dX6_in_15
  · have hf := if_f hf c1
    refine lv_iload_n hx hb dX6_in_5 rfl (lv_at hl 0 rfl) ?_
    refine lv_iload_n hx hb dX6_in_6 rfl (lv_at hl 2 rfl) ?_
    refine lv_icmp_gt (tgt := 14) hx hb dX6_in_7 (by decide) (fun c2 => ?_) (fun c2 => ?_)
    · have hf := if_t hf c2
      refine lv_iconst (v := (0 : Int32)) hx hb dX6_in_14 (by decide) ?_
      exact rRz hc rfl hf dX6_in_15
    · have hf := if_f hf c2
      refine lv_iconst (v := (1 : Int32)) hx hb dX6_in_10 (by decide) ?_
      refine lv_goto (tgt := 15) hx hb dX6_in_11 (by decide) ?_
      exact rRz hc rfl hf dX6_in_15
abbrev R_X6_joins : Room := { frames := 1, cells := 0, slots := 0, locals := 22 }
def m_X6_joins (o_n : Int32) (o_near : Nat → Int64) (p1 : Int32) (p2 : Int32) (p3 : Int32) : Option ((Nat → Int64)) := (if (m_X6_in p2 (0 : Int32) (o_n - (1 : Int32))) = 0 then some o_near else (if (m_X6_in p3 (0 : Int32) (o_n - (1 : Int32))) = 0 then some o_near else (if okI p1 49 = true then (if okI p1 49 = true then some (vp_updL o_near p1.toNatClampNeg ((o_near p1.toNatClampNeg) ||| (jshl (1 : Int64) ((p2 * o_n) + p3)))) else none) else none)))
set_option maxHeartbeats 4000000 in
set_option maxRecDepth 100000 in
theorem c_X6_joins (l : Launch) (D : va_G) (C : Nat → ClassId) (sz : Nat) (a0 : Nat) (a1 : Nat) (a2 : Nat) (a3 : Nat) (a4 : Nat) (a5 : Nat) (a6 : Nat) (a7 : Nat) (a8 : Nat) (a9 : Nat) (a10 : Nat) (a11 : Nat) (a12 : Nat) (a13 : Nat) (a14 : Nat) (a15 : Nat) (o_n : Int32) (o_all : Int32) (o_made : Int32) (o_own0 : Int64) (o_own1 : Int64) (o_threatMany : Int32) (o_length : Int32) (o_holes : Int32) (o_tellings : Int32) (o_game : Nat → Int32) (o_near : Nat → Int64) (o_kept : Nat → Int32) (o_isKept : Nat → Int32) (o_threatOf : Nat → Int32) (o_threatSet : Nat → Int64) (o_text : Nat → Int32) (o_far : Nat → Int32) (o_back : Nat → Int32) (o_hole : Nat → Int32) (o_isWon : Nat → Int32) (o_won : Nat → Int32) (o_lasts : Nat → Int32) (o_power : Nat → Int32) (o_told : Nat → Int32) (p1 : Int32) (p2 : Int32) (p3 : Int32) (o : (Nat → Int64)) (hf : m_X6_joins o_n o_near p1 p2 p3 = some o) : Met l yX6_joins (wl yX6_joins cX6_joins 4 none) R_X6_joins (PW [.ref a0, .int p1, .int p2, .int p3] D C sz (wX6 C a0 a1 a2 a3 a4 a5 a6 a7 a8 a9 a10 a11 a12 a13 a14 a15 o_n o_all o_made o_own0 o_own1 o_threatMany o_length o_holes o_tellings o_game o_near o_kept o_isKept o_threatOf o_threatSet o_text o_far o_back o_hole o_isWon o_won o_lasts o_power o_told) ([] : va_W)) (QWv D (wX6 C a0 a1 a2 a3 a4 a5 a6 a7 a8 a9 a10 a11 a12 a13 a14 a15 o_n o_all o_made o_own0 o_own1 o_threatMany o_length o_holes o_tellings o_game o o_kept o_isKept o_threatOf o_threatSet o_text o_far o_back o_hole o_isWon o_won o_lasts o_power o_told) (va_A (wX6 C a0 a1 a2 a3 a4 a5 a6 a7 a8 a9 a10 a11 a12 a13 a14 a15 o_n o_all o_made o_own0 o_own1 o_threatMany o_length o_holes o_tellings o_game o_near o_kept o_isKept o_threatOf o_threatSet o_text o_far o_back o_hole o_isWon o_won o_lasts o_power o_told) sz)) 0 0 (va_A (wX6 C a0 a1 a2 a3 a4 a5 a6 a7 a8 a9 a10 a11 a12 a13 a14 a15 o_n o_all o_made o_own0 o_own1 o_threatMany o_length o_holes o_tellings o_game o_near o_kept o_isKept o_threatOf o_threatSet o_text o_far o_back o_hole o_isWon o_won o_lasts o_power o_told) sz) := by
  refine Met_ofC (by decide) ?_
  intro p e s m args below meth c hc hv
  obtain ⟨rfl, hsz, hP, hK, hD0, hO, hN0⟩ := hv
  subst hsz
  have hD := hD0.self (sz := s.heap.size)
  have hN : ∀ q ∈ ([] : va_W), ¬ va_A (wX6 C a0 a1 a2 a3 a4 a5 a6 a7 a8 a9 a10 a11 a12 a13 a14 a15 o_n o_all o_made o_own0 o_own1 o_threatMany o_length o_holes o_tellings o_game o_near o_kept o_isKept o_threatOf o_threatSet o_text o_far o_back o_hole o_isWon o_won o_lasts o_power o_told) s.heap.size q.1 := hN0
  generalize hAe : va_A (wX6 C a0 a1 a2 a3 a4 a5 a6 a7 a8 a9 a10 a11 a12 a13 a14 a15 o_n o_all o_made o_own0 o_own1 o_threatMany o_length o_holes o_tellings o_game o_near o_kept o_isKept o_threatOf o_threatSet o_text o_far o_back o_hole o_isWon o_won o_lasts o_power o_told) s.heap.size = A at hD hN ⊢
  have hA : ∀ q : Nat, s.heap.size ≤ q → A q := fun q h => by rw [← hAe]; exact Or.inr h
  have hS : va_S A s.heap s.heap [] := va_S.rf
  have hx := hc.1
  have hb := hc.2.1
  have hown := hc.2.2.2.2.1
  have hts := hc.2.2.2.2.2.1
  refine en_F rfl (fun ls hl => ?_)
  have hl : lv_has ls 4 [(0, .ref a0), (1, .int p1), (2, .int p2), (3, .int p3)] := hl
  refine lv_iload_n hx hb dX6_joins_0 rfl (lv_at hl 2 rfl) ?_
  refine lv_iconst (v := (0 : Int32)) hx hb dX6_joins_1 (by decide) ?_
  refine lv_aload_n hx hb dX6_joins_2 rfl (lv_at hl 0 rfl) ?_
  refine va_get (D := D) (ci := 6) (v := .int o_n) (C := RX6) (T := TX6) (N := 24) hx hb hts inX6 hown hK hP 0 rfl rfl 0 (by decide) (hts _ q_654) (fun _ h9 => h9) rfl dX6_joins_3 ?_
  refine lv_iconst (v := (1 : Int32)) hx hb dX6_joins_6 (by decide) ?_
  refine lv_isub hx hb dX6_joins_7 ?_
  refine rcSi (As := [.int p2, .int (0 : Int32), .int (o_n - (1 : Int32))]) (rest := []) hc k_X6_64 (c_X6_in l D C p2 (0 : Int32) (o_n - (1 : Int32))  _ rfl) ⟨rfl, rfl, Nat.le_of_ble_eq_true rfl, Nat.le_of_ble_eq_true rfl⟩ (hP.sub [] rfl) hK hl rfl rfl (Nat.le_of_ble_eq_true rfl) ⟨Nat.zero_le _, Nat.zero_le _⟩ dX6_joins_8 ?_
  refine lv_if_eq (tgt := 47) hx hb dX6_joins_11 (by decide) (fun c1 => ?_) (fun c1 => ?_)
  · have hf := if_t hf c1
    have hf := Option.some.inj hf
    subst hf
    exact rWv hc hP hD hS dX6_joins_47
  · have hf := if_f hf c1
    refine lv_iload_n hx hb dX6_joins_14 rfl (lv_at hl 3 rfl) ?_
    refine lv_iconst (v := (0 : Int32)) hx hb dX6_joins_15 (by decide) ?_
    refine lv_aload_n hx hb dX6_joins_16 rfl (lv_at hl 0 rfl) ?_
    refine va_get (D := D) (ci := 6) (v := .int o_n) (C := RX6) (T := TX6) (N := 24) hx hb hts inX6 hown hK hP 0 rfl rfl 0 (by decide) (hts _ q_654) (fun _ h9 => h9) rfl dX6_joins_17 ?_
    refine lv_iconst (v := (1 : Int32)) hx hb dX6_joins_20 (by decide) ?_
    refine lv_isub hx hb dX6_joins_21 ?_
    refine rcSi (As := [.int p3, .int (0 : Int32), .int (o_n - (1 : Int32))]) (rest := []) hc k_X6_64 (c_X6_in l D C p3 (0 : Int32) (o_n - (1 : Int32))  _ rfl) ⟨rfl, rfl, Nat.le_of_ble_eq_true rfl, Nat.le_of_ble_eq_true rfl⟩ (hP.sub [] rfl) hK hl rfl rfl (Nat.le_of_ble_eq_true rfl) ⟨Nat.zero_le _, Nat.zero_le _⟩ dX6_joins_22 ?_
    refine lv_if_eq (tgt := 47) hx hb dX6_joins_25 (by decide) (fun c2 => ?_) (fun c2 => ?_)
    · have hf := if_t hf c2
      have hf := Option.some.inj hf
      subst hf
      exact rWv hc hP hD hS dX6_joins_47
    · have hf := if_f hf c2
      refine lv_aload_n hx hb dX6_joins_28 rfl (lv_at hl 0 rfl) ?_
      refine va_get (D := D) (ci := 6) (v := .ref a2) (C := RX6) (T := TX6) (N := 24) hx hb hts inX6 hown hK hP 0 rfl rfl 6 (by decide) (hts _ q_660) (fun _ h9 => h9) rfl dX6_joins_29 ?_
      refine lv_iload_n hx hb dX6_joins_32 rfl (lv_at hl 1 rfl) ?_
      refine lv_dup2_11 hx hb dX6_joins_33 rfl rfl ?_
      obtain ⟨h3, hf⟩ := ok_t hf
      refine va_lald hx hb hK hP 2 1 rfl rfl (okI_in h3) dX6_joins_34 ?_
      refine lv_lconst (v := (1 : Int64)) hx hb dX6_joins_35 (by decide) ?_
      refine lv_iload_n hx hb dX6_joins_36 rfl (lv_at hl 2 rfl) ?_
      refine lv_aload_n hx hb dX6_joins_37 rfl (lv_at hl 0 rfl) ?_
      refine va_get (D := D) (ci := 6) (v := .int o_n) (C := RX6) (T := TX6) (N := 24) hx hb hts inX6 hown hK hP 0 rfl rfl 0 (by decide) (hts _ q_654) (fun _ h9 => h9) rfl dX6_joins_38 ?_
      refine lv_imul hx hb dX6_joins_41 ?_
      refine lv_iload_n hx hb dX6_joins_42 rfl (lv_at hl 3 rfl) ?_
      refine lv_iadd hx hb dX6_joins_43 ?_
      refine lv_lshl (v := (jshl (1 : Int64) ((p2 * o_n) + p3))) hx hb dX6_joins_44 rfl ?_
      refine lv_lor hx hb dX6_joins_45 ?_
      obtain ⟨h4, hf⟩ := ok_t hf
      refine va_last hx hb hK hP hD hS 2 1 rfl rfl (okI_in h4) dX6_joins_46 (fun H locs hP hD hS => ?_)
      have hP : va_P D vwCl (wX6 C a0 a1 a2 a3 a4 a5 a6 a7 a8 a9 a10 a11 a12 a13 a14 a15 o_n o_all o_made o_own0 o_own1 o_threatMany o_length o_holes o_tellings o_game (vp_updL o_near p1.toNatClampNeg ((o_near p1.toNatClampNeg) ||| (jshl (1 : Int64) ((p2 * o_n) + p3)))) o_kept o_isKept o_threatOf o_threatSet o_text o_far o_back o_hole o_isWon o_won o_lasts o_power o_told) H := hP
      have hD : va_D A (wX6 C a0 a1 a2 a3 a4 a5 a6 a7 a8 a9 a10 a11 a12 a13 a14 a15 o_n o_all o_made o_own0 o_own1 o_threatMany o_length o_holes o_tellings o_game (vp_updL o_near p1.toNatClampNeg ((o_near p1.toNatClampNeg) ||| (jshl (1 : Int64) ((p2 * o_n) + p3)))) o_kept o_isKept o_threatOf o_threatSet o_text o_far o_back o_hole o_isWon o_won o_lasts o_power o_told) := hD
      have hf := Option.some.inj hf
      subst hf
      exact rWv hc hP hD hS dX6_joins_47
abbrev R_X6_shapes : Room := { frames := 2, cells := 0, slots := 0, locals := 45 }
def m_X6_shapes_c2 (o_n : Int32)  : Nat → Int32 → (Nat → Int64) → Option ((Nat → Int64))
  | 0, _, _ => none
  | n + 1, v1, o_near => (if (o_n * o_n) ≤ v1 then some o_near else (if o_n = 0 then none else (if o_n = 0 then none else (if okI v1 49 = true then ((m_X6_joins o_n (vp_updL o_near v1.toNatClampNeg (0 : Int64)) v1 (v1 / o_n) ((jirem v1 o_n) - (1 : Int32))).bind fun u5 => ((m_X6_joins o_n u5 v1 (v1 / o_n) ((jirem v1 o_n) + (1 : Int32))).bind fun u6 => ((m_X6_joins o_n u6 v1 ((v1 / o_n) - (1 : Int32)) (jirem v1 o_n)).bind fun u7 => ((m_X6_joins o_n u7 v1 ((v1 / o_n) + (1 : Int32)) (jirem v1 o_n)).bind fun u8 => ((m_X6_joins o_n u8 v1 ((v1 / o_n) - (1 : Int32)) ((jirem v1 o_n) + (1 : Int32))).bind fun u9 => ((m_X6_joins o_n u9 v1 ((v1 / o_n) + (1 : Int32)) ((jirem v1 o_n) - (1 : Int32))).bind fun u10 => (m_X6_shapes_c2 o_n  n (v1 + (1 : Int32)) u10))))))) else none))))
set_option maxHeartbeats 4000000 in
set_option maxRecDepth 100000 in
theorem w_X6_shapes_c2 {p : Program} {l : Launch} {e : Env} {s : State} {m : MethodId} {args : Array Value} {below : List Frame} {meth : Method} {c : Code} {D : va_G} {C : Nat → ClassId} {A : Nat → Prop} {a0 : Nat} {a1 : Nat} {a2 : Nat} {a3 : Nat} {a4 : Nat} {a5 : Nat} {a6 : Nat} {a7 : Nat} {a8 : Nat} {a9 : Nat} {a10 : Nat} {a11 : Nat} {a12 : Nat} {a13 : Nat} {a14 : Nat} {a15 : Nat} {o_n : Int32} {o_all : Int32} {o_made : Int32} {o_own0 : Int64} {o_own1 : Int64} {o_threatMany : Int32} {o_length : Int32} {o_holes : Int32} {o_tellings : Int32} {o_game : Nat → Int32} {o_kept : Nat → Int32} {o_isKept : Nat → Int32} {o_threatOf : Nat → Int32} {o_threatSet : Nat → Int64} {o_text : Nat → Int32} {o_far : Nat → Int32} {o_back : Nat → Int32} {o_hole : Nat → Int32} {o_isWon : Nat → Int32} {o_won : Nat → Int32} {o_lasts : Nat → Int32} {o_power : Nat → Int32} {o_told : Nat → Int32} {o : (Nat → Int64)} (hc : Cx p s m args meth c yX6_shapes cX6_shapes 4 none) (hK : va_K D vwCl (TY C) s) (hA : ∀ q : Nat, s.heap.size ≤ q → A q) (hO : va_P D vwCl ([] : va_W) s.heap) (hN : ∀ q ∈ ([] : va_W), ¬ A q.1) : ∀ (n : Nat), ∀ (v1 : Int32) (o_near : Nat → Int64), m_X6_shapes_c2 o_n  n v1 o_near = some o → ∀ (H : Heap) (locs : List Loc), va_P D vwCl (wX6 C a0 a1 a2 a3 a4 a5 a6 a7 a8 a9 a10 a11 a12 a13 a14 a15 o_n o_all o_made o_own0 o_own1 o_threatMany o_length o_holes o_tellings o_game o_near o_kept o_isKept o_threatOf o_threatSet o_text o_far o_back o_hole o_isWon o_won o_lasts o_power o_told) H → va_D A (wX6 C a0 a1 a2 a3 a4 a5 a6 a7 a8 a9 a10 a11 a12 a13 a14 a15 o_n o_all o_made o_own0 o_own1 o_threatMany o_length o_holes o_tellings o_game o_near o_kept o_isKept o_threatOf o_threatSet o_text o_far o_back o_hole o_isWon o_won o_lasts o_power o_told) → va_S A s.heap H locs → ∀ (ls : Array Slot), lv_has ls 4 [(0, .ref a0), (1, .int v1)] → W p l e R_X6_shapes s m args below meth c H locs 0 0 (MQ below (QWv D (wX6 C a0 a1 a2 a3 a4 a5 a6 a7 a8 a9 a10 a11 a12 a13 a14 a15 o_n o_all o_made o_own0 o_own1 o_threatMany o_length o_holes o_tellings o_game o o_kept o_isKept o_threatOf o_threatSet o_text o_far o_back o_hole o_isWon o_won o_lasts o_power o_told) A) args s 0 0 A) (F0 m 2 ls []) := by
  have hx := hc.1
  have hb := hc.2.1
  have hown := hc.2.2.2.2.1
  have hts := hc.2.2.2.2.2.1
  intro n
  induction n with
  | zero =>
    intro v1 o_near hf
    exact no_some hf
  | succ n ih =>
    intro v1 o_near hf H locs hP hD hS ls hl
    refine lv_iload_n hx hb dX6_shapes_2 rfl (lv_at hl 1 rfl) ?_
    refine lv_aload_n hx hb dX6_shapes_3 rfl (lv_at hl 0 rfl) ?_
    refine va_get (D := D) (ci := 6) (v := .int o_n) (C := RX6) (T := TX6) (N := 24) hx hb hts inX6 hown hK hP 0 rfl rfl 0 (by decide) (hts _ q_654) (fun _ h9 => h9) rfl dX6_shapes_4 ?_
    refine lv_aload_n hx hb dX6_shapes_7 rfl (lv_at hl 0 rfl) ?_
    refine va_get (D := D) (ci := 6) (v := .int o_n) (C := RX6) (T := TX6) (N := 24) hx hb hts inX6 hown hK hP 0 rfl rfl 0 (by decide) (hts _ q_654) (fun _ h9 => h9) rfl dX6_shapes_8 ?_
    refine lv_imul hx hb dX6_shapes_11 ?_
    refine lv_icmp_ge (tgt := 100) hx hb dX6_shapes_12 (by decide) (fun c1 => ?_) (fun c1 => ?_)
    · have hf := if_t hf c1
      have hf := Option.some.inj hf
      subst hf
      exact rWv hc hP hD hS dX6_shapes_100
    · have hf := if_f hf c1
      refine lv_iload_n hx hb dX6_shapes_15 rfl (lv_at hl 1 rfl) ?_
      refine lv_aload_n hx hb dX6_shapes_16 rfl (lv_at hl 0 rfl) ?_
      refine va_get (D := D) (ci := 6) (v := .int o_n) (C := RX6) (T := TX6) (N := 24) hx hb hts inX6 hown hK hP 0 rfl rfl 0 (by decide) (hts _ q_654) (fun _ h9 => h9) rfl dX6_shapes_17 ?_
      obtain ⟨h2, hf⟩ := nz_t hf
      refine lv_idiv hx hb dX6_shapes_20 h2 ?_
      refine lv_istore_n (lv' := [(2, .int (v1 / o_n)), (0, .ref a0), (1, .int v1)]) hx hb dX6_shapes_21 rfl hl (by decide) rfl (fun ls hl => ?_)
      refine lv_iload_n hx hb dX6_shapes_22 rfl (lv_at hl 2 rfl) ?_
      refine lv_aload_n hx hb dX6_shapes_23 rfl (lv_at hl 1 rfl) ?_
      refine va_get (D := D) (ci := 6) (v := .int o_n) (C := RX6) (T := TX6) (N := 24) hx hb hts inX6 hown hK hP 0 rfl rfl 0 (by decide) (hts _ q_654) (fun _ h9 => h9) rfl dX6_shapes_24 ?_
      obtain ⟨h3, hf⟩ := nz_t hf
      refine lv_irem hx hb dX6_shapes_27 h3 ?_
      refine lv_istore_n (lv' := [(3, .int (jirem v1 o_n)), (2, .int (v1 / o_n)), (0, .ref a0), (1, .int v1)]) hx hb dX6_shapes_28 rfl hl (by decide) rfl (fun ls hl => ?_)
      refine lv_aload_n hx hb dX6_shapes_29 rfl (lv_at hl 2 rfl) ?_
      refine va_get (D := D) (ci := 6) (v := .ref a2) (C := RX6) (T := TX6) (N := 24) hx hb hts inX6 hown hK hP 0 rfl rfl 6 (by decide) (hts _ q_660) (fun _ h9 => h9) rfl dX6_shapes_30 ?_
      refine lv_iload_n hx hb dX6_shapes_33 rfl (lv_at hl 3 rfl) ?_
      refine lv_lconst (v := (0 : Int64)) hx hb dX6_shapes_34 (by decide) ?_
      obtain ⟨h4, hf⟩ := ok_t hf
      refine va_last hx hb hK hP hD hS 2 1 rfl rfl (okI_in h4) dX6_shapes_35 (fun H locs hP hD hS => ?_)
      have hP : va_P D vwCl (wX6 C a0 a1 a2 a3 a4 a5 a6 a7 a8 a9 a10 a11 a12 a13 a14 a15 o_n o_all o_made o_own0 o_own1 o_threatMany o_length o_holes o_tellings o_game (vp_updL o_near v1.toNatClampNeg (0 : Int64)) o_kept o_isKept o_threatOf o_threatSet o_text o_far o_back o_hole o_isWon o_won o_lasts o_power o_told) H := hP
      have hD : va_D A (wX6 C a0 a1 a2 a3 a4 a5 a6 a7 a8 a9 a10 a11 a12 a13 a14 a15 o_n o_all o_made o_own0 o_own1 o_threatMany o_length o_holes o_tellings o_game (vp_updL o_near v1.toNatClampNeg (0 : Int64)) o_kept o_isKept o_threatOf o_threatSet o_text o_far o_back o_hole o_isWon o_won o_lasts o_power o_told) := hD
      refine lv_aload_n hx hb dX6_shapes_36 rfl (lv_at hl 2 rfl) ?_
      refine lv_iload_n hx hb dX6_shapes_37 rfl (lv_at hl 3 rfl) ?_
      refine lv_iload_n hx hb dX6_shapes_38 rfl (lv_at hl 1 rfl) ?_
      refine lv_iload_n hx hb dX6_shapes_39 rfl (lv_at hl 0 rfl) ?_
      refine lv_iconst (v := (1 : Int32)) hx hb dX6_shapes_40 (by decide) ?_
      refine lv_isub hx hb dX6_shapes_41 ?_
      obtain ⟨u5, hu5, hf⟩ := bind_some hf
      refine wcVv (A := A) (wc := wX6 C a0 a1 a2 a3 a4 a5 a6 a7 a8 a9 a10 a11 a12 a13 a14 a15 o_n o_all o_made o_own0 o_own1 o_threatMany o_length o_holes o_tellings o_game (vp_updL o_near v1.toNatClampNeg (0 : Int64)) o_kept o_isKept o_threatOf o_threatSet o_text o_far o_back o_hole o_isWon o_won o_lasts o_power o_told) (w1 := wX6 C a0 a1 a2 a3 a4 a5 a6 a7 a8 a9 a10 a11 a12 a13 a14 a15 o_n o_all o_made o_own0 o_own1 o_threatMany o_length o_holes o_tellings o_game u5 o_kept o_isKept o_threatOf o_threatSet o_text o_far o_back o_hole o_isWon o_won o_lasts o_power o_told) (rc := []) (As := [.int v1, .int (v1 / o_n), .int ((jirem v1 o_n) - (1 : Int32))]) (rest := []) hc k_X6_68 (c_X6_joins l D C _ a0 a1 a2 a3 a4 a5 a6 a7 a8 a9 a10 a11 a12 a13 a14 a15 o_n o_all o_made o_own0 o_own1 o_threatMany o_length o_holes o_tellings o_game (vp_updL o_near v1.toNatClampNeg (0 : Int64)) o_kept o_isKept o_threatOf o_threatSet o_text o_far o_back o_hole o_isWon o_won o_lasts o_power o_told v1 (v1 / o_n) ((jirem v1 o_n) - (1 : Int32))  _ hu5) ⟨rfl, rfl, Nat.le_of_ble_eq_true rfl, Nat.le_of_ble_eq_true rfl⟩ hP hD hS hA hK [0, 1, 2, 3, 4, 5, 6, 7, 8, 9, 10, 11, 12, 13, 14, 15] [] rfl rfl rfl rfl (by decide) (hP.sub [] rfl) Ap_nil (q0 := 0) rfl rfl rfl hl rfl rfl (Nat.le_of_ble_eq_true rfl) ⟨Nat.zero_le _, Nat.zero_le _⟩ dX6_shapes_42 (fun H locs hP hD hS => ?_)
      have hP : va_P D vwCl (wX6 C a0 a1 a2 a3 a4 a5 a6 a7 a8 a9 a10 a11 a12 a13 a14 a15 o_n o_all o_made o_own0 o_own1 o_threatMany o_length o_holes o_tellings o_game u5 o_kept o_isKept o_threatOf o_threatSet o_text o_far o_back o_hole o_isWon o_won o_lasts o_power o_told) H := hP.sub [0, 1, 2, 3, 4, 5, 6, 7, 8, 9, 10, 11, 12, 13, 14, 15] rfl
      have hD : va_D A (wX6 C a0 a1 a2 a3 a4 a5 a6 a7 a8 a9 a10 a11 a12 a13 a14 a15 o_n o_all o_made o_own0 o_own1 o_threatMany o_length o_holes o_tellings o_game u5 o_kept o_isKept o_threatOf o_threatSet o_text o_far o_back o_hole o_isWon o_won o_lasts o_power o_told) := hD.sub [0, 1, 2, 3, 4, 5, 6, 7, 8, 9, 10, 11, 12, 13, 14, 15] rfl rfl
      refine lv_aload_n hx hb dX6_shapes_45 rfl (lv_at hl 2 rfl) ?_
      refine lv_iload_n hx hb dX6_shapes_46 rfl (lv_at hl 3 rfl) ?_
      refine lv_iload_n hx hb dX6_shapes_47 rfl (lv_at hl 1 rfl) ?_
      refine lv_iload_n hx hb dX6_shapes_48 rfl (lv_at hl 0 rfl) ?_
      refine lv_iconst (v := (1 : Int32)) hx hb dX6_shapes_49 (by decide) ?_
      refine lv_iadd hx hb dX6_shapes_50 ?_
      obtain ⟨u6, hu6, hf⟩ := bind_some hf
      refine wcVv (A := A) (wc := wX6 C a0 a1 a2 a3 a4 a5 a6 a7 a8 a9 a10 a11 a12 a13 a14 a15 o_n o_all o_made o_own0 o_own1 o_threatMany o_length o_holes o_tellings o_game u5 o_kept o_isKept o_threatOf o_threatSet o_text o_far o_back o_hole o_isWon o_won o_lasts o_power o_told) (w1 := wX6 C a0 a1 a2 a3 a4 a5 a6 a7 a8 a9 a10 a11 a12 a13 a14 a15 o_n o_all o_made o_own0 o_own1 o_threatMany o_length o_holes o_tellings o_game u6 o_kept o_isKept o_threatOf o_threatSet o_text o_far o_back o_hole o_isWon o_won o_lasts o_power o_told) (rc := []) (As := [.int v1, .int (v1 / o_n), .int ((jirem v1 o_n) + (1 : Int32))]) (rest := []) hc k_X6_68 (c_X6_joins l D C _ a0 a1 a2 a3 a4 a5 a6 a7 a8 a9 a10 a11 a12 a13 a14 a15 o_n o_all o_made o_own0 o_own1 o_threatMany o_length o_holes o_tellings o_game u5 o_kept o_isKept o_threatOf o_threatSet o_text o_far o_back o_hole o_isWon o_won o_lasts o_power o_told v1 (v1 / o_n) ((jirem v1 o_n) + (1 : Int32))  _ hu6) ⟨rfl, rfl, Nat.le_of_ble_eq_true rfl, Nat.le_of_ble_eq_true rfl⟩ hP hD hS hA hK [0, 1, 2, 3, 4, 5, 6, 7, 8, 9, 10, 11, 12, 13, 14, 15] [] rfl rfl rfl rfl (by decide) (hP.sub [] rfl) Ap_nil (q0 := 0) rfl rfl rfl hl rfl rfl (Nat.le_of_ble_eq_true rfl) ⟨Nat.zero_le _, Nat.zero_le _⟩ dX6_shapes_51 (fun H locs hP hD hS => ?_)
      have hP : va_P D vwCl (wX6 C a0 a1 a2 a3 a4 a5 a6 a7 a8 a9 a10 a11 a12 a13 a14 a15 o_n o_all o_made o_own0 o_own1 o_threatMany o_length o_holes o_tellings o_game u6 o_kept o_isKept o_threatOf o_threatSet o_text o_far o_back o_hole o_isWon o_won o_lasts o_power o_told) H := hP.sub [0, 1, 2, 3, 4, 5, 6, 7, 8, 9, 10, 11, 12, 13, 14, 15] rfl
      have hD : va_D A (wX6 C a0 a1 a2 a3 a4 a5 a6 a7 a8 a9 a10 a11 a12 a13 a14 a15 o_n o_all o_made o_own0 o_own1 o_threatMany o_length o_holes o_tellings o_game u6 o_kept o_isKept o_threatOf o_threatSet o_text o_far o_back o_hole o_isWon o_won o_lasts o_power o_told) := hD.sub [0, 1, 2, 3, 4, 5, 6, 7, 8, 9, 10, 11, 12, 13, 14, 15] rfl rfl
      refine lv_aload_n hx hb dX6_shapes_54 rfl (lv_at hl 2 rfl) ?_
      refine lv_iload_n hx hb dX6_shapes_55 rfl (lv_at hl 3 rfl) ?_
      refine lv_iload_n hx hb dX6_shapes_56 rfl (lv_at hl 1 rfl) ?_
      refine lv_iconst (v := (1 : Int32)) hx hb dX6_shapes_57 (by decide) ?_
      refine lv_isub hx hb dX6_shapes_58 ?_
      refine lv_iload_n hx hb dX6_shapes_59 rfl (lv_at hl 0 rfl) ?_
      obtain ⟨u7, hu7, hf⟩ := bind_some hf
      refine wcVv (A := A) (wc := wX6 C a0 a1 a2 a3 a4 a5 a6 a7 a8 a9 a10 a11 a12 a13 a14 a15 o_n o_all o_made o_own0 o_own1 o_threatMany o_length o_holes o_tellings o_game u6 o_kept o_isKept o_threatOf o_threatSet o_text o_far o_back o_hole o_isWon o_won o_lasts o_power o_told) (w1 := wX6 C a0 a1 a2 a3 a4 a5 a6 a7 a8 a9 a10 a11 a12 a13 a14 a15 o_n o_all o_made o_own0 o_own1 o_threatMany o_length o_holes o_tellings o_game u7 o_kept o_isKept o_threatOf o_threatSet o_text o_far o_back o_hole o_isWon o_won o_lasts o_power o_told) (rc := []) (As := [.int v1, .int ((v1 / o_n) - (1 : Int32)), .int (jirem v1 o_n)]) (rest := []) hc k_X6_68 (c_X6_joins l D C _ a0 a1 a2 a3 a4 a5 a6 a7 a8 a9 a10 a11 a12 a13 a14 a15 o_n o_all o_made o_own0 o_own1 o_threatMany o_length o_holes o_tellings o_game u6 o_kept o_isKept o_threatOf o_threatSet o_text o_far o_back o_hole o_isWon o_won o_lasts o_power o_told v1 ((v1 / o_n) - (1 : Int32)) (jirem v1 o_n)  _ hu7) ⟨rfl, rfl, Nat.le_of_ble_eq_true rfl, Nat.le_of_ble_eq_true rfl⟩ hP hD hS hA hK [0, 1, 2, 3, 4, 5, 6, 7, 8, 9, 10, 11, 12, 13, 14, 15] [] rfl rfl rfl rfl (by decide) (hP.sub [] rfl) Ap_nil (q0 := 0) rfl rfl rfl hl rfl rfl (Nat.le_of_ble_eq_true rfl) ⟨Nat.zero_le _, Nat.zero_le _⟩ dX6_shapes_60 (fun H locs hP hD hS => ?_)
      have hP : va_P D vwCl (wX6 C a0 a1 a2 a3 a4 a5 a6 a7 a8 a9 a10 a11 a12 a13 a14 a15 o_n o_all o_made o_own0 o_own1 o_threatMany o_length o_holes o_tellings o_game u7 o_kept o_isKept o_threatOf o_threatSet o_text o_far o_back o_hole o_isWon o_won o_lasts o_power o_told) H := hP.sub [0, 1, 2, 3, 4, 5, 6, 7, 8, 9, 10, 11, 12, 13, 14, 15] rfl
      have hD : va_D A (wX6 C a0 a1 a2 a3 a4 a5 a6 a7 a8 a9 a10 a11 a12 a13 a14 a15 o_n o_all o_made o_own0 o_own1 o_threatMany o_length o_holes o_tellings o_game u7 o_kept o_isKept o_threatOf o_threatSet o_text o_far o_back o_hole o_isWon o_won o_lasts o_power o_told) := hD.sub [0, 1, 2, 3, 4, 5, 6, 7, 8, 9, 10, 11, 12, 13, 14, 15] rfl rfl
      refine lv_aload_n hx hb dX6_shapes_63 rfl (lv_at hl 2 rfl) ?_
      refine lv_iload_n hx hb dX6_shapes_64 rfl (lv_at hl 3 rfl) ?_
      refine lv_iload_n hx hb dX6_shapes_65 rfl (lv_at hl 1 rfl) ?_
      refine lv_iconst (v := (1 : Int32)) hx hb dX6_shapes_66 (by decide) ?_
      refine lv_iadd hx hb dX6_shapes_67 ?_
      refine lv_iload_n hx hb dX6_shapes_68 rfl (lv_at hl 0 rfl) ?_
      obtain ⟨u8, hu8, hf⟩ := bind_some hf
      refine wcVv (A := A) (wc := wX6 C a0 a1 a2 a3 a4 a5 a6 a7 a8 a9 a10 a11 a12 a13 a14 a15 o_n o_all o_made o_own0 o_own1 o_threatMany o_length o_holes o_tellings o_game u7 o_kept o_isKept o_threatOf o_threatSet o_text o_far o_back o_hole o_isWon o_won o_lasts o_power o_told) (w1 := wX6 C a0 a1 a2 a3 a4 a5 a6 a7 a8 a9 a10 a11 a12 a13 a14 a15 o_n o_all o_made o_own0 o_own1 o_threatMany o_length o_holes o_tellings o_game u8 o_kept o_isKept o_threatOf o_threatSet o_text o_far o_back o_hole o_isWon o_won o_lasts o_power o_told) (rc := []) (As := [.int v1, .int ((v1 / o_n) + (1 : Int32)), .int (jirem v1 o_n)]) (rest := []) hc k_X6_68 (c_X6_joins l D C _ a0 a1 a2 a3 a4 a5 a6 a7 a8 a9 a10 a11 a12 a13 a14 a15 o_n o_all o_made o_own0 o_own1 o_threatMany o_length o_holes o_tellings o_game u7 o_kept o_isKept o_threatOf o_threatSet o_text o_far o_back o_hole o_isWon o_won o_lasts o_power o_told v1 ((v1 / o_n) + (1 : Int32)) (jirem v1 o_n)  _ hu8) ⟨rfl, rfl, Nat.le_of_ble_eq_true rfl, Nat.le_of_ble_eq_true rfl⟩ hP hD hS hA hK [0, 1, 2, 3, 4, 5, 6, 7, 8, 9, 10, 11, 12, 13, 14, 15] [] rfl rfl rfl rfl (by decide) (hP.sub [] rfl) Ap_nil (q0 := 0) rfl rfl rfl hl rfl rfl (Nat.le_of_ble_eq_true rfl) ⟨Nat.zero_le _, Nat.zero_le _⟩ dX6_shapes_69 (fun H locs hP hD hS => ?_)
      have hP : va_P D vwCl (wX6 C a0 a1 a2 a3 a4 a5 a6 a7 a8 a9 a10 a11 a12 a13 a14 a15 o_n o_all o_made o_own0 o_own1 o_threatMany o_length o_holes o_tellings o_game u8 o_kept o_isKept o_threatOf o_threatSet o_text o_far o_back o_hole o_isWon o_won o_lasts o_power o_told) H := hP.sub [0, 1, 2, 3, 4, 5, 6, 7, 8, 9, 10, 11, 12, 13, 14, 15] rfl
      have hD : va_D A (wX6 C a0 a1 a2 a3 a4 a5 a6 a7 a8 a9 a10 a11 a12 a13 a14 a15 o_n o_all o_made o_own0 o_own1 o_threatMany o_length o_holes o_tellings o_game u8 o_kept o_isKept o_threatOf o_threatSet o_text o_far o_back o_hole o_isWon o_won o_lasts o_power o_told) := hD.sub [0, 1, 2, 3, 4, 5, 6, 7, 8, 9, 10, 11, 12, 13, 14, 15] rfl rfl
      refine lv_aload_n hx hb dX6_shapes_72 rfl (lv_at hl 2 rfl) ?_
      refine lv_iload_n hx hb dX6_shapes_73 rfl (lv_at hl 3 rfl) ?_
      refine lv_iload_n hx hb dX6_shapes_74 rfl (lv_at hl 1 rfl) ?_
      refine lv_iconst (v := (1 : Int32)) hx hb dX6_shapes_75 (by decide) ?_
      refine lv_isub hx hb dX6_shapes_76 ?_
      refine lv_iload_n hx hb dX6_shapes_77 rfl (lv_at hl 0 rfl) ?_
      refine lv_iconst (v := (1 : Int32)) hx hb dX6_shapes_78 (by decide) ?_
      refine lv_iadd hx hb dX6_shapes_79 ?_
      obtain ⟨u9, hu9, hf⟩ := bind_some hf
      refine wcVv (A := A) (wc := wX6 C a0 a1 a2 a3 a4 a5 a6 a7 a8 a9 a10 a11 a12 a13 a14 a15 o_n o_all o_made o_own0 o_own1 o_threatMany o_length o_holes o_tellings o_game u8 o_kept o_isKept o_threatOf o_threatSet o_text o_far o_back o_hole o_isWon o_won o_lasts o_power o_told) (w1 := wX6 C a0 a1 a2 a3 a4 a5 a6 a7 a8 a9 a10 a11 a12 a13 a14 a15 o_n o_all o_made o_own0 o_own1 o_threatMany o_length o_holes o_tellings o_game u9 o_kept o_isKept o_threatOf o_threatSet o_text o_far o_back o_hole o_isWon o_won o_lasts o_power o_told) (rc := []) (As := [.int v1, .int ((v1 / o_n) - (1 : Int32)), .int ((jirem v1 o_n) + (1 : Int32))]) (rest := []) hc k_X6_68 (c_X6_joins l D C _ a0 a1 a2 a3 a4 a5 a6 a7 a8 a9 a10 a11 a12 a13 a14 a15 o_n o_all o_made o_own0 o_own1 o_threatMany o_length o_holes o_tellings o_game u8 o_kept o_isKept o_threatOf o_threatSet o_text o_far o_back o_hole o_isWon o_won o_lasts o_power o_told v1 ((v1 / o_n) - (1 : Int32)) ((jirem v1 o_n) + (1 : Int32))  _ hu9) ⟨rfl, rfl, Nat.le_of_ble_eq_true rfl, Nat.le_of_ble_eq_true rfl⟩ hP hD hS hA hK [0, 1, 2, 3, 4, 5, 6, 7, 8, 9, 10, 11, 12, 13, 14, 15] [] rfl rfl rfl rfl (by decide) (hP.sub [] rfl) Ap_nil (q0 := 0) rfl rfl rfl hl rfl rfl (Nat.le_of_ble_eq_true rfl) ⟨Nat.zero_le _, Nat.zero_le _⟩ dX6_shapes_80 (fun H locs hP hD hS => ?_)
      have hP : va_P D vwCl (wX6 C a0 a1 a2 a3 a4 a5 a6 a7 a8 a9 a10 a11 a12 a13 a14 a15 o_n o_all o_made o_own0 o_own1 o_threatMany o_length o_holes o_tellings o_game u9 o_kept o_isKept o_threatOf o_threatSet o_text o_far o_back o_hole o_isWon o_won o_lasts o_power o_told) H := hP.sub [0, 1, 2, 3, 4, 5, 6, 7, 8, 9, 10, 11, 12, 13, 14, 15] rfl
      have hD : va_D A (wX6 C a0 a1 a2 a3 a4 a5 a6 a7 a8 a9 a10 a11 a12 a13 a14 a15 o_n o_all o_made o_own0 o_own1 o_threatMany o_length o_holes o_tellings o_game u9 o_kept o_isKept o_threatOf o_threatSet o_text o_far o_back o_hole o_isWon o_won o_lasts o_power o_told) := hD.sub [0, 1, 2, 3, 4, 5, 6, 7, 8, 9, 10, 11, 12, 13, 14, 15] rfl rfl
      refine lv_aload_n hx hb dX6_shapes_83 rfl (lv_at hl 2 rfl) ?_
      refine lv_iload_n hx hb dX6_shapes_84 rfl (lv_at hl 3 rfl) ?_
      refine lv_iload_n hx hb dX6_shapes_85 rfl (lv_at hl 1 rfl) ?_
      refine lv_iconst (v := (1 : Int32)) hx hb dX6_shapes_86 (by decide) ?_
      refine lv_iadd hx hb dX6_shapes_87 ?_
      refine lv_iload_n hx hb dX6_shapes_88 rfl (lv_at hl 0 rfl) ?_
      refine lv_iconst (v := (1 : Int32)) hx hb dX6_shapes_89 (by decide) ?_
      refine lv_isub hx hb dX6_shapes_90 ?_
      obtain ⟨u10, hu10, hf⟩ := bind_some hf
      refine wcVv (A := A) (wc := wX6 C a0 a1 a2 a3 a4 a5 a6 a7 a8 a9 a10 a11 a12 a13 a14 a15 o_n o_all o_made o_own0 o_own1 o_threatMany o_length o_holes o_tellings o_game u9 o_kept o_isKept o_threatOf o_threatSet o_text o_far o_back o_hole o_isWon o_won o_lasts o_power o_told) (w1 := wX6 C a0 a1 a2 a3 a4 a5 a6 a7 a8 a9 a10 a11 a12 a13 a14 a15 o_n o_all o_made o_own0 o_own1 o_threatMany o_length o_holes o_tellings o_game u10 o_kept o_isKept o_threatOf o_threatSet o_text o_far o_back o_hole o_isWon o_won o_lasts o_power o_told) (rc := []) (As := [.int v1, .int ((v1 / o_n) + (1 : Int32)), .int ((jirem v1 o_n) - (1 : Int32))]) (rest := []) hc k_X6_68 (c_X6_joins l D C _ a0 a1 a2 a3 a4 a5 a6 a7 a8 a9 a10 a11 a12 a13 a14 a15 o_n o_all o_made o_own0 o_own1 o_threatMany o_length o_holes o_tellings o_game u9 o_kept o_isKept o_threatOf o_threatSet o_text o_far o_back o_hole o_isWon o_won o_lasts o_power o_told v1 ((v1 / o_n) + (1 : Int32)) ((jirem v1 o_n) - (1 : Int32))  _ hu10) ⟨rfl, rfl, Nat.le_of_ble_eq_true rfl, Nat.le_of_ble_eq_true rfl⟩ hP hD hS hA hK [0, 1, 2, 3, 4, 5, 6, 7, 8, 9, 10, 11, 12, 13, 14, 15] [] rfl rfl rfl rfl (by decide) (hP.sub [] rfl) Ap_nil (q0 := 0) rfl rfl rfl hl rfl rfl (Nat.le_of_ble_eq_true rfl) ⟨Nat.zero_le _, Nat.zero_le _⟩ dX6_shapes_91 (fun H locs hP hD hS => ?_)
      have hP : va_P D vwCl (wX6 C a0 a1 a2 a3 a4 a5 a6 a7 a8 a9 a10 a11 a12 a13 a14 a15 o_n o_all o_made o_own0 o_own1 o_threatMany o_length o_holes o_tellings o_game u10 o_kept o_isKept o_threatOf o_threatSet o_text o_far o_back o_hole o_isWon o_won o_lasts o_power o_told) H := hP.sub [0, 1, 2, 3, 4, 5, 6, 7, 8, 9, 10, 11, 12, 13, 14, 15] rfl
      have hD : va_D A (wX6 C a0 a1 a2 a3 a4 a5 a6 a7 a8 a9 a10 a11 a12 a13 a14 a15 o_n o_all o_made o_own0 o_own1 o_threatMany o_length o_holes o_tellings o_game u10 o_kept o_isKept o_threatOf o_threatSet o_text o_far o_back o_hole o_isWon o_won o_lasts o_power o_told) := hD.sub [0, 1, 2, 3, 4, 5, 6, 7, 8, 9, 10, 11, 12, 13, 14, 15] rfl rfl
      refine lv_iinc (v := (v1 + (1 : Int32))) (lv' := [(1, .int (v1 + (1 : Int32))), (3, .int (jirem v1 o_n)), (2, .int (v1 / o_n)), (0, .ref a0)]) hx hb dX6_shapes_94 hl (k := 3) rfl rfl (by decide) rfl (fun ls hl => ?_)
      refine lv_goto (tgt := 2) hx hb dX6_shapes_97 (by decide) ?_
      exact ih (v1 + (1 : Int32)) u10 hf _ _ hP hD hS ls (lv_sub hl [3, 0] rfl)
def m_X6_shapes (o_n : Int32) (o_near : Nat → Int64) : Option ((Nat → Int64)) := (m_X6_shapes_c2 o_n FU (0 : Int32) o_near)
set_option maxHeartbeats 4000000 in
set_option maxRecDepth 100000 in
theorem c_X6_shapes (l : Launch) (D : va_G) (C : Nat → ClassId) (sz : Nat) (a0 : Nat) (a1 : Nat) (a2 : Nat) (a3 : Nat) (a4 : Nat) (a5 : Nat) (a6 : Nat) (a7 : Nat) (a8 : Nat) (a9 : Nat) (a10 : Nat) (a11 : Nat) (a12 : Nat) (a13 : Nat) (a14 : Nat) (a15 : Nat) (o_n : Int32) (o_all : Int32) (o_made : Int32) (o_own0 : Int64) (o_own1 : Int64) (o_threatMany : Int32) (o_length : Int32) (o_holes : Int32) (o_tellings : Int32) (o_game : Nat → Int32) (o_near : Nat → Int64) (o_kept : Nat → Int32) (o_isKept : Nat → Int32) (o_threatOf : Nat → Int32) (o_threatSet : Nat → Int64) (o_text : Nat → Int32) (o_far : Nat → Int32) (o_back : Nat → Int32) (o_hole : Nat → Int32) (o_isWon : Nat → Int32) (o_won : Nat → Int32) (o_lasts : Nat → Int32) (o_power : Nat → Int32) (o_told : Nat → Int32) (o : (Nat → Int64)) (hf : m_X6_shapes o_n o_near = some o) : Met l yX6_shapes (wl yX6_shapes cX6_shapes 4 none) R_X6_shapes (PW [.ref a0] D C sz (wX6 C a0 a1 a2 a3 a4 a5 a6 a7 a8 a9 a10 a11 a12 a13 a14 a15 o_n o_all o_made o_own0 o_own1 o_threatMany o_length o_holes o_tellings o_game o_near o_kept o_isKept o_threatOf o_threatSet o_text o_far o_back o_hole o_isWon o_won o_lasts o_power o_told) ([] : va_W)) (QWv D (wX6 C a0 a1 a2 a3 a4 a5 a6 a7 a8 a9 a10 a11 a12 a13 a14 a15 o_n o_all o_made o_own0 o_own1 o_threatMany o_length o_holes o_tellings o_game o o_kept o_isKept o_threatOf o_threatSet o_text o_far o_back o_hole o_isWon o_won o_lasts o_power o_told) (va_A (wX6 C a0 a1 a2 a3 a4 a5 a6 a7 a8 a9 a10 a11 a12 a13 a14 a15 o_n o_all o_made o_own0 o_own1 o_threatMany o_length o_holes o_tellings o_game o_near o_kept o_isKept o_threatOf o_threatSet o_text o_far o_back o_hole o_isWon o_won o_lasts o_power o_told) sz)) 0 0 (va_A (wX6 C a0 a1 a2 a3 a4 a5 a6 a7 a8 a9 a10 a11 a12 a13 a14 a15 o_n o_all o_made o_own0 o_own1 o_threatMany o_length o_holes o_tellings o_game o_near o_kept o_isKept o_threatOf o_threatSet o_text o_far o_back o_hole o_isWon o_won o_lasts o_power o_told) sz) := by
  refine Met_ofC (by decide) ?_
  intro p e s m args below meth c hc hv
  obtain ⟨rfl, hsz, hP, hK, hD0, hO, hN0⟩ := hv
  subst hsz
  have hD := hD0.self (sz := s.heap.size)
  have hN : ∀ q ∈ ([] : va_W), ¬ va_A (wX6 C a0 a1 a2 a3 a4 a5 a6 a7 a8 a9 a10 a11 a12 a13 a14 a15 o_n o_all o_made o_own0 o_own1 o_threatMany o_length o_holes o_tellings o_game o_near o_kept o_isKept o_threatOf o_threatSet o_text o_far o_back o_hole o_isWon o_won o_lasts o_power o_told) s.heap.size q.1 := hN0
  generalize hAe : va_A (wX6 C a0 a1 a2 a3 a4 a5 a6 a7 a8 a9 a10 a11 a12 a13 a14 a15 o_n o_all o_made o_own0 o_own1 o_threatMany o_length o_holes o_tellings o_game o_near o_kept o_isKept o_threatOf o_threatSet o_text o_far o_back o_hole o_isWon o_won o_lasts o_power o_told) s.heap.size = A at hD hN ⊢
  have hA : ∀ q : Nat, s.heap.size ≤ q → A q := fun q h => by rw [← hAe]; exact Or.inr h
  have hS : va_S A s.heap s.heap [] := va_S.rf
  have hx := hc.1
  have hb := hc.2.1
  have hown := hc.2.2.2.2.1
  have hts := hc.2.2.2.2.2.1
  refine en_F rfl (fun ls hl => ?_)
  have hl : lv_has ls 4 [(0, .ref a0)] := hl
  refine lv_iconst (v := (0 : Int32)) hx hb dX6_shapes_0 (by decide) ?_
  refine lv_istore_n (lv' := [(1, .int (0 : Int32)), (0, .ref a0)]) hx hb dX6_shapes_1 rfl hl (by decide) rfl (fun ls hl => ?_)
  exact w_X6_shapes_c2 hc hK hA hO hN  FU (0 : Int32) o_near hf _ _ hP hD hS ls (lv_sub hl [1, 0] rfl)
abbrev R_X6_has : Room := { frames := 0, cells := 0, slots := 0, locals := 0 }
def m_X6_has (p0 : Int64) (p1 : Int32) : Int32 := (if ((jshr p0 p1) &&& (1 : Int64)) = (1 : Int64) then (1 : Int32) else (0 : Int32))
set_option maxHeartbeats 4000000 in
set_option maxRecDepth 100000 in
theorem c_X6_has (l : Launch) (D : va_G) (C : Nat → ClassId) (p0 : Int64) (p1 : Int32) (o : Int32) (hf : m_X6_has p0 p1 = o) : Met l yX6_has (wl yX6_has cX6_has 3 (some .boolean)) R_X6_has (PR [.long p0, .int p1] D C ([] : va_W)) (vp_Si (fun r => r = o)) 0 0 (fun _ => False) := by
  refine Met_ofC (by decide) ?_
  intro p e s m args below meth c hc hv
  obtain ⟨rfl, hP, hK⟩ := hv
  have hx := hc.1
  have hb := hc.2.1
  have hown := hc.2.2.2.2.1
  have hts := hc.2.2.2.2.2.1
  refine en_F rfl (fun ls hl => ?_)
  have hl : lv_has ls 3 [(0, .long p0), (2, .int p1)] := hl
  refine lv_lload_n hx hb dX6_has_0 rfl (lv_at hl 0 rfl) ?_
  refine lv_iload_n hx hb dX6_has_1 rfl (lv_at hl 1 rfl) ?_
  refine lv_lshr (v := (jshr p0 p1)) hx hb dX6_has_2 rfl ?_
  refine lv_lconst (v := (1 : Int64)) hx hb dX6_has_3 (by decide) ?_
  refine lv_land hx hb dX6_has_4 ?_
  refine lv_lconst (v := (1 : Int64)) hx hb dX6_has_5 (by decide) ?_
  refine lc_ne (tgt := 14) hx hb dX6_has_6 dX6_has_7 (by decide) (fun c1 => ?_) (fun c1 => ?_)
  · have hf := if_f hf c1
    refine lv_iconst (v := (0 : Int32)) hx hb dX6_has_14 (by decide) ?_
    exact rRz hc rfl hf dX6_has_15
  · have hf := if_t hf c1
    refine lv_iconst (v := (1 : Int32)) hx hb dX6_has_10 (by decide) ?_
    refine lv_goto (tgt := 15) hx hb dX6_has_11 (by decide) ?_
    exact rRz hc rfl hf dX6_has_15
abbrev R_X6_size : Room := { frames := 0, cells := 0, slots := 0, locals := 0 }
def m_X6_size_c4   : Nat → Int32 → Int64 → Option (Int32)
  | 0, _, _ => none
  | n + 1, v2, v3 => (if v3 = (0 : Int64) then some v2 else (m_X6_size_c4   n (v2 + (1 : Int32)) (v3 &&& (v3 - (1 : Int64)))))
set_option maxHeartbeats 4000000 in
set_option maxRecDepth 100000 in
theorem w_X6_size_c4 {p : Program} {l : Launch} {e : Env} {s : State} {m : MethodId} {args : Array Value} {below : List Frame} {meth : Method} {c : Code} {D : va_G} {C : Nat → ClassId}  {o : Int32} (hc : Cx p s m args meth c yX6_size cX6_size 5 (some .int)) (hK : va_K D vwCl (TY C) s) (hP : va_P D vwCl ([] : va_W) s.heap) : ∀ (n : Nat), ∀ (v2 : Int32) (v3 : Int64), m_X6_size_c4   n v2 v3 = some o → ∀ (ls : Array Slot), lv_has ls 5 [(2, .int v2), (3, .long v3)] → W p l e R_X6_size s m args below meth c s.heap [] 0 0 (MQ below (vp_Si (fun r => r = o)) args s 0 0 (fun _ => False)) (F0 m 4 ls []) := by
  have hx := hc.1
  have hb := hc.2.1
  have hown := hc.2.2.2.2.1
  have hts := hc.2.2.2.2.2.1
  intro n
  induction n with
  | zero =>
    intro v2 v3 hf
    exact no_some hf
  | succ n ih =>
    intro v2 v3 hf ls hl
    refine lv_lload_n hx hb dX6_size_4 rfl (lv_at hl 1 rfl) ?_
    refine lv_lconst (v := (0 : Int64)) hx hb dX6_size_5 (by decide) ?_
    refine lc_eq (tgt := 22) hx hb dX6_size_6 dX6_size_7 (by decide) (fun c1 => ?_) (fun c1 => ?_)
    · have hf := if_t hf c1
      refine lv_iload_n hx hb dX6_size_22 rfl (lv_at hl 0 rfl) ?_
      exact rRi hc (Option.some.inj hf) dX6_size_23
    · have hf := if_f hf c1
      refine lv_iinc (v := (v2 + (1 : Int32))) (lv' := [(2, .int (v2 + (1 : Int32))), (3, .long v3)]) hx hb dX6_size_10 hl (k := 0) rfl rfl (by decide) rfl (fun ls hl => ?_)
      refine lv_lload_n hx hb dX6_size_13 rfl (lv_at hl 1 rfl) ?_
      refine lv_lload_n hx hb dX6_size_14 rfl (lv_at hl 1 rfl) ?_
      refine lv_lconst (v := (1 : Int64)) hx hb dX6_size_15 (by decide) ?_
      refine lv_lsub hx hb dX6_size_16 ?_
      refine lv_land hx hb dX6_size_17 ?_
      refine lv_lstore_n (lv' := [(3, .long (v3 &&& (v3 - (1 : Int64)))), (2, .int (v2 + (1 : Int32)))]) hx hb dX6_size_18 rfl hl (by decide) rfl (fun ls hl => ?_)
      refine lv_goto (tgt := 4) hx hb dX6_size_19 (by decide) ?_
      exact ih (v2 + (1 : Int32)) (v3 &&& (v3 - (1 : Int64))) hf ls (lv_sub hl [1, 0] rfl)
def m_X6_size (p0 : Int64) : Option (Int32) := (m_X6_size_c4 FU (0 : Int32) p0)
set_option maxHeartbeats 4000000 in
set_option maxRecDepth 100000 in
theorem c_X6_size (l : Launch) (D : va_G) (C : Nat → ClassId) (p0 : Int64) (o : Int32) (hf : m_X6_size p0 = some o) : Met l yX6_size (wl yX6_size cX6_size 5 (some .int)) R_X6_size (PR [.long p0] D C ([] : va_W)) (vp_Si (fun r => r = o)) 0 0 (fun _ => False) := by
  refine Met_ofC (by decide) ?_
  intro p e s m args below meth c hc hv
  obtain ⟨rfl, hP, hK⟩ := hv
  have hx := hc.1
  have hb := hc.2.1
  have hown := hc.2.2.2.2.1
  have hts := hc.2.2.2.2.2.1
  refine en_F rfl (fun ls hl => ?_)
  have hl : lv_has ls 5 [(0, .long p0)] := hl
  refine lv_iconst (v := (0 : Int32)) hx hb dX6_size_0 (by decide) ?_
  refine lv_istore_n (lv' := [(2, .int (0 : Int32)), (0, .long p0)]) hx hb dX6_size_1 rfl hl (by decide) rfl (fun ls hl => ?_)
  refine lv_lload_n hx hb dX6_size_2 rfl (lv_at hl 1 rfl) ?_
  refine lv_lstore_n (lv' := [(3, .long p0), (2, .int (0 : Int32)), (0, .long p0)]) hx hb dX6_size_3 rfl hl (by decide) rfl (fun ls hl => ?_)
  exact w_X6_size_c4 hc hK hP  FU (0 : Int32) p0 hf ls (lv_sub hl [1, 0] rfl)
abbrev R_X6_cells : Room := { frames := 0, cells := 0, slots := 0, locals := 0 }
def m_X6_cells (o_n : Int32) : Int64 := ((jshl (1 : Int64) (o_n * o_n)) - (1 : Int64))
set_option maxHeartbeats 4000000 in
set_option maxRecDepth 100000 in
theorem c_X6_cells (l : Launch) (D : va_G) (C : Nat → ClassId) (z0 : Nat) (o_n : Int32) (r_o_game : Nat) (o_all : Int32) (o_made : Int32) (o_own0 : Int64) (o_own1 : Int64) (r_o_near : Nat) (r_o_kept : Nat) (r_o_isKept : Nat) (r_o_threatOf : Nat) (r_o_threatSet : Nat) (o_threatMany : Int32) (r_o_text : Nat) (o_length : Int32) (r_o_far : Nat) (r_o_back : Nat) (r_o_hole : Nat) (o_holes : Int32) (r_o_isWon : Nat) (r_o_won : Nat) (r_o_lasts : Nat) (r_o_power : Nat) (r_o_told : Nat) (o_tellings : Int32) (o : Int64) (hf : m_X6_cells o_n = o) : Met l yX6_cells (wl yX6_cells cX6_cells 1 (some .long)) R_X6_cells (PR [.ref z0] D C [cX6 z0 o_n r_o_game o_all o_made o_own0 o_own1 r_o_near r_o_kept r_o_isKept r_o_threatOf r_o_threatSet o_threatMany r_o_text o_length r_o_far r_o_back r_o_hole o_holes r_o_isWon r_o_won r_o_lasts r_o_power r_o_told o_tellings]) (vp_Sl (fun r => r = o)) 0 0 (fun _ => False) := by
  refine Met_ofC (by decide) ?_
  intro p e s m args below meth c hc hv
  obtain ⟨rfl, hP, hK⟩ := hv
  have hx := hc.1
  have hb := hc.2.1
  have hown := hc.2.2.2.2.1
  have hts := hc.2.2.2.2.2.1
  refine en_F rfl (fun ls hl => ?_)
  have hl : lv_has ls 1 [(0, .ref z0)] := hl
  refine lv_lconst (v := (1 : Int64)) hx hb dX6_cells_0 (by decide) ?_
  refine lv_aload_n hx hb dX6_cells_1 rfl (lv_at hl 0 rfl) ?_
  refine va_get (D := D) (ci := 6) (v := .int o_n) (C := RX6) (T := TX6) (N := 24) hx hb hts inX6 hown hK hP 0 rfl rfl 0 (by decide) (hts _ q_654) (fun _ h9 => h9) rfl dX6_cells_2 ?_
  refine lv_aload_n hx hb dX6_cells_5 rfl (lv_at hl 0 rfl) ?_
  refine va_get (D := D) (ci := 6) (v := .int o_n) (C := RX6) (T := TX6) (N := 24) hx hb hts inX6 hown hK hP 0 rfl rfl 0 (by decide) (hts _ q_654) (fun _ h9 => h9) rfl dX6_cells_6 ?_
  refine lv_imul hx hb dX6_cells_9 ?_
  refine lv_lshl (v := (jshl (1 : Int64) (o_n * o_n))) hx hb dX6_cells_10 rfl ?_
  refine lv_lconst (v := (1 : Int64)) hx hb dX6_cells_11 (by decide) ?_
  refine lv_lsub hx hb dX6_cells_12 ?_
  exact rRl hc hf dX6_cells_13
abbrev R_X6_free : Room := { frames := 1, cells := 0, slots := 0, locals := 20 }
def m_X6_free (o_n : Int32) (o_own0 : Int64) (o_own1 : Int64) : Int64 := (((m_X6_cells o_n) &&& (o_own0 ^^^ (-1 : Int64))) &&& (o_own1 ^^^ (-1 : Int64)))
set_option maxHeartbeats 4000000 in
set_option maxRecDepth 100000 in
theorem c_X6_free (l : Launch) (D : va_G) (C : Nat → ClassId) (z0 : Nat) (o_n : Int32) (r_o_game : Nat) (o_all : Int32) (o_made : Int32) (o_own0 : Int64) (o_own1 : Int64) (r_o_near : Nat) (r_o_kept : Nat) (r_o_isKept : Nat) (r_o_threatOf : Nat) (r_o_threatSet : Nat) (o_threatMany : Int32) (r_o_text : Nat) (o_length : Int32) (r_o_far : Nat) (r_o_back : Nat) (r_o_hole : Nat) (o_holes : Int32) (r_o_isWon : Nat) (r_o_won : Nat) (r_o_lasts : Nat) (r_o_power : Nat) (r_o_told : Nat) (o_tellings : Int32) (o : Int64) (hf : m_X6_free o_n o_own0 o_own1 = o) : Met l yX6_free (wl yX6_free cX6_free 1 (some .long)) R_X6_free (PR [.ref z0] D C [cX6 z0 o_n r_o_game o_all o_made o_own0 o_own1 r_o_near r_o_kept r_o_isKept r_o_threatOf r_o_threatSet o_threatMany r_o_text o_length r_o_far r_o_back r_o_hole o_holes r_o_isWon r_o_won r_o_lasts r_o_power r_o_told o_tellings]) (vp_Sl (fun r => r = o)) 0 0 (fun _ => False) := by
  refine Met_ofC (by decide) ?_
  intro p e s m args below meth c hc hv
  obtain ⟨rfl, hP, hK⟩ := hv
  have hx := hc.1
  have hb := hc.2.1
  have hown := hc.2.2.2.2.1
  have hts := hc.2.2.2.2.2.1
  refine en_F rfl (fun ls hl => ?_)
  have hl : lv_has ls 1 [(0, .ref z0)] := hl
  refine lv_aload_n hx hb dX6_free_0 rfl (lv_at hl 0 rfl) ?_
  refine rcVl (As := []) (rest := []) hc k_X6_72 (c_X6_cells l D C z0 o_n r_o_game o_all o_made o_own0 o_own1 r_o_near r_o_kept r_o_isKept r_o_threatOf r_o_threatSet o_threatMany r_o_text o_length r_o_far r_o_back r_o_hole o_holes r_o_isWon r_o_won r_o_lasts r_o_power r_o_told o_tellings  _ rfl) ⟨rfl, rfl, Nat.le_of_ble_eq_true rfl, Nat.le_of_ble_eq_true rfl⟩ (hP.sub [0] rfl) hK (q0 := 0) rfl rfl rfl hl rfl rfl (Nat.le_of_ble_eq_true rfl) ⟨Nat.zero_le _, Nat.zero_le _⟩ dX6_free_1 ?_
  refine lv_aload_n hx hb dX6_free_4 rfl (lv_at hl 0 rfl) ?_
  refine va_get (D := D) (ci := 6) (v := .long o_own0) (C := RX6) (T := TX6) (N := 24) hx hb hts inX6 hown hK hP 0 rfl rfl 4 (by decide) (hts _ q_658) (fun _ h9 => h9) rfl dX6_free_5 ?_
  refine lv_ldc2 (v := (-1 : Int64)) hx hb hown (hts _ q_760) dX6_free_8 ?_
  refine lv_lxor hx hb dX6_free_11 ?_
  refine lv_land hx hb dX6_free_12 ?_
  refine lv_aload_n hx hb dX6_free_13 rfl (lv_at hl 0 rfl) ?_
  refine va_get (D := D) (ci := 6) (v := .long o_own1) (C := RX6) (T := TX6) (N := 24) hx hb hts inX6 hown hK hP 0 rfl rfl 5 (by decide) (hts _ q_659) (fun _ h9 => h9) rfl dX6_free_14 ?_
  refine lv_ldc2 (v := (-1 : Int64)) hx hb hown (hts _ q_760) dX6_free_17 ?_
  refine lv_lxor hx hb dX6_free_20 ?_
  refine lv_land hx hb dX6_free_21 ?_
  exact rRl hc hf dX6_free_22
abbrev R_X6_own : Room := { frames := 0, cells := 0, slots := 0, locals := 0 }
def m_X6_own (o_own0 : Int64) (o_own1 : Int64) (p1 : Int32) : Int64 := (if p1 = 0 then o_own0 else o_own1)
set_option maxHeartbeats 4000000 in
set_option maxRecDepth 100000 in
theorem c_X6_own (l : Launch) (D : va_G) (C : Nat → ClassId) (z0 : Nat) (o_n : Int32) (r_o_game : Nat) (o_all : Int32) (o_made : Int32) (o_own0 : Int64) (o_own1 : Int64) (r_o_near : Nat) (r_o_kept : Nat) (r_o_isKept : Nat) (r_o_threatOf : Nat) (r_o_threatSet : Nat) (o_threatMany : Int32) (r_o_text : Nat) (o_length : Int32) (r_o_far : Nat) (r_o_back : Nat) (r_o_hole : Nat) (o_holes : Int32) (r_o_isWon : Nat) (r_o_won : Nat) (r_o_lasts : Nat) (r_o_power : Nat) (r_o_told : Nat) (o_tellings : Int32) (p1 : Int32) (o : Int64) (hf : m_X6_own o_own0 o_own1 p1 = o) : Met l yX6_own (wl yX6_own cX6_own 2 (some .long)) R_X6_own (PR [.ref z0, .int p1] D C [cX6 z0 o_n r_o_game o_all o_made o_own0 o_own1 r_o_near r_o_kept r_o_isKept r_o_threatOf r_o_threatSet o_threatMany r_o_text o_length r_o_far r_o_back r_o_hole o_holes r_o_isWon r_o_won r_o_lasts r_o_power r_o_told o_tellings]) (vp_Sl (fun r => r = o)) 0 0 (fun _ => False) := by
  refine Met_ofC (by decide) ?_
  intro p e s m args below meth c hc hv
  obtain ⟨rfl, hP, hK⟩ := hv
  have hx := hc.1
  have hb := hc.2.1
  have hown := hc.2.2.2.2.1
  have hts := hc.2.2.2.2.2.1
  refine en_F rfl (fun ls hl => ?_)
  have hl : lv_has ls 2 [(0, .ref z0), (1, .int p1)] := hl
  refine lv_iload_n hx hb dX6_own_0 rfl (lv_at hl 1 rfl) ?_
  refine lv_if_ne (tgt := 11) hx hb dX6_own_1 (by decide) (fun c1 => ?_) (fun c1 => ?_)
  · have hf := if_f hf c1
    refine lv_aload_n hx hb dX6_own_11 rfl (lv_at hl 0 rfl) ?_
    refine va_get (D := D) (ci := 6) (v := .long o_own1) (C := RX6) (T := TX6) (N := 24) hx hb hts inX6 hown hK hP 0 rfl rfl 5 (by decide) (hts _ q_659) (fun _ h9 => h9) rfl dX6_own_12 ?_
    exact rRl hc hf dX6_own_15
  · have hf := if_t hf c1
    refine lv_aload_n hx hb dX6_own_4 rfl (lv_at hl 0 rfl) ?_
    refine va_get (D := D) (ci := 6) (v := .long o_own0) (C := RX6) (T := TX6) (N := 24) hx hb hts inX6 hown hK hP 0 rfl rfl 4 (by decide) (hts _ q_658) (fun _ h9 => h9) rfl dX6_own_5 ?_
    refine lv_goto (tgt := 15) hx hb dX6_own_8 (by decide) ?_
    exact rRl hc hf dX6_own_15
abbrev R_X6_isCell : Room := { frames := 1, cells := 0, slots := 0, locals := 22 }
def m_X6_isCell (o_n : Int32) (p1 : Int32) : Int32 := (m_X6_in p1 (0 : Int32) ((o_n * o_n) - (1 : Int32)))
set_option maxHeartbeats 4000000 in
set_option maxRecDepth 100000 in
theorem c_X6_isCell (l : Launch) (D : va_G) (C : Nat → ClassId) (z0 : Nat) (o_n : Int32) (r_o_game : Nat) (o_all : Int32) (o_made : Int32) (o_own0 : Int64) (o_own1 : Int64) (r_o_near : Nat) (r_o_kept : Nat) (r_o_isKept : Nat) (r_o_threatOf : Nat) (r_o_threatSet : Nat) (o_threatMany : Int32) (r_o_text : Nat) (o_length : Int32) (r_o_far : Nat) (r_o_back : Nat) (r_o_hole : Nat) (o_holes : Int32) (r_o_isWon : Nat) (r_o_won : Nat) (r_o_lasts : Nat) (r_o_power : Nat) (r_o_told : Nat) (o_tellings : Int32) (p1 : Int32) (o : Int32) (hf : m_X6_isCell o_n p1 = o) : Met l yX6_isCell (wl yX6_isCell cX6_isCell 2 (some .boolean)) R_X6_isCell (PR [.ref z0, .int p1] D C [cX6 z0 o_n r_o_game o_all o_made o_own0 o_own1 r_o_near r_o_kept r_o_isKept r_o_threatOf r_o_threatSet o_threatMany r_o_text o_length r_o_far r_o_back r_o_hole o_holes r_o_isWon r_o_won r_o_lasts r_o_power r_o_told o_tellings]) (vp_Si (fun r => r = o)) 0 0 (fun _ => False) := by
  refine Met_ofC (by decide) ?_
  intro p e s m args below meth c hc hv
  obtain ⟨rfl, hP, hK⟩ := hv
  have hx := hc.1
  have hb := hc.2.1
  have hown := hc.2.2.2.2.1
  have hts := hc.2.2.2.2.2.1
  refine en_F rfl (fun ls hl => ?_)
  have hl : lv_has ls 2 [(0, .ref z0), (1, .int p1)] := hl
  refine lv_iload_n hx hb dX6_isCell_0 rfl (lv_at hl 1 rfl) ?_
  refine lv_iconst (v := (0 : Int32)) hx hb dX6_isCell_1 (by decide) ?_
  refine lv_aload_n hx hb dX6_isCell_2 rfl (lv_at hl 0 rfl) ?_
  refine va_get (D := D) (ci := 6) (v := .int o_n) (C := RX6) (T := TX6) (N := 24) hx hb hts inX6 hown hK hP 0 rfl rfl 0 (by decide) (hts _ q_654) (fun _ h9 => h9) rfl dX6_isCell_3 ?_
  refine lv_aload_n hx hb dX6_isCell_6 rfl (lv_at hl 0 rfl) ?_
  refine va_get (D := D) (ci := 6) (v := .int o_n) (C := RX6) (T := TX6) (N := 24) hx hb hts inX6 hown hK hP 0 rfl rfl 0 (by decide) (hts _ q_654) (fun _ h9 => h9) rfl dX6_isCell_7 ?_
  refine lv_imul hx hb dX6_isCell_10 ?_
  refine lv_iconst (v := (1 : Int32)) hx hb dX6_isCell_11 (by decide) ?_
  refine lv_isub hx hb dX6_isCell_12 ?_
  refine rcSi (As := [.int p1, .int (0 : Int32), .int ((o_n * o_n) - (1 : Int32))]) (rest := []) hc k_X6_64 (c_X6_in l D C p1 (0 : Int32) ((o_n * o_n) - (1 : Int32))  _ rfl) ⟨rfl, rfl, Nat.le_of_ble_eq_true rfl, Nat.le_of_ble_eq_true rfl⟩ (hP.sub [] rfl) hK hl rfl rfl (Nat.le_of_ble_eq_true rfl) ⟨Nat.zero_le _, Nat.zero_le _⟩ dX6_isCell_13 ?_
  exact rRz hc (by unfold m_X6_in; (repeat' split) <;> rfl) hf dX6_isCell_16
abbrev R_X6_isPlayer : Room := { frames := 1, cells := 0, slots := 0, locals := 22 }
def m_X6_isPlayer (p0 : Int32) : Int32 := (m_X6_in p0 (0 : Int32) (1 : Int32))
set_option maxHeartbeats 4000000 in
set_option maxRecDepth 100000 in
theorem c_X6_isPlayer (l : Launch) (D : va_G) (C : Nat → ClassId) (p0 : Int32) (o : Int32) (hf : m_X6_isPlayer p0 = o) : Met l yX6_isPlayer (wl yX6_isPlayer cX6_isPlayer 1 (some .boolean)) R_X6_isPlayer (PR [.int p0] D C ([] : va_W)) (vp_Si (fun r => r = o)) 0 0 (fun _ => False) := by
  refine Met_ofC (by decide) ?_
  intro p e s m args below meth c hc hv
  obtain ⟨rfl, hP, hK⟩ := hv
  have hx := hc.1
  have hb := hc.2.1
  have hown := hc.2.2.2.2.1
  have hts := hc.2.2.2.2.2.1
  refine en_F rfl (fun ls hl => ?_)
  have hl : lv_has ls 1 [(0, .int p0)] := hl
  refine lv_iload_n hx hb dX6_isPlayer_0 rfl (lv_at hl 0 rfl) ?_
  refine lv_iconst (v := (0 : Int32)) hx hb dX6_isPlayer_1 (by decide) ?_
  refine lv_iconst (v := (1 : Int32)) hx hb dX6_isPlayer_2 (by decide) ?_
  refine rcSi (As := [.int p0, .int (0 : Int32), .int (1 : Int32)]) (rest := []) hc k_X6_64 (c_X6_in l D C p0 (0 : Int32) (1 : Int32)  _ rfl) ⟨rfl, rfl, Nat.le_of_ble_eq_true rfl, Nat.le_of_ble_eq_true rfl⟩ (hP.sub [] rfl) hK hl rfl rfl (Nat.le_of_ble_eq_true rfl) ⟨Nat.zero_le _, Nat.zero_le _⟩ dX6_isPlayer_3 ?_
  exact rRz hc (by unfold m_X6_in; (repeat' split) <;> rfl) hf dX6_isPlayer_6
abbrev R_X6_edge : Room := { frames := 0, cells := 0, slots := 0, locals := 0 }
def m_X6_edge_c77  (k5 : Int64 → Int32 → Option (Int64)) (v2 : Int64) (v4 : Int32) (t0 : Int32) : Option (Int64) := (k5 (v2 ||| (jshl (1 : Int64) t0)) (v4 + (1 : Int32)))
set_option maxHeartbeats 4000000 in
set_option maxRecDepth 100000 in
theorem w_X6_edge_c77 {p : Program} {l : Launch} {e : Env} {s : State} {m : MethodId} {args : Array Value} {below : List Frame} {meth : Method} {c : Code} {D : va_G} {C : Nat → ClassId} {z0 : Nat} {o_n : Int32} {r_o_game : Nat} {o_all : Int32} {o_made : Int32} {o_own0 : Int64} {o_own1 : Int64} {r_o_near : Nat} {r_o_kept : Nat} {r_o_isKept : Nat} {r_o_threatOf : Nat} {r_o_threatSet : Nat} {o_threatMany : Int32} {r_o_text : Nat} {o_length : Int32} {r_o_far : Nat} {r_o_back : Nat} {r_o_hole : Nat} {o_holes : Int32} {r_o_isWon : Nat} {r_o_won : Nat} {r_o_lasts : Nat} {r_o_power : Nat} {r_o_told : Nat} {o_tellings : Int32} {p1 : Int32} {o : Int64} (hc : Cx p s m args meth c yX6_edge cX6_edge 6 (some .long)) (hK : va_K D vwCl (TY C) s) (hP : va_P D vwCl [cX6 z0 o_n r_o_game o_all o_made o_own0 o_own1 r_o_near r_o_kept r_o_isKept r_o_threatOf r_o_threatSet o_threatMany r_o_text o_length r_o_far r_o_back r_o_hole o_holes r_o_isWon r_o_won r_o_lasts r_o_power r_o_told o_tellings] s.heap) (k5 : Int64 → Int32 → Option (Int64)) (hk5 : ∀ (v2 : Int64) (v4 : Int32), k5 v2 v4 = some o → ∀ (ls : Array Slot), lv_has ls 6 [(0, .ref z0), (1, .int p1), (2, .long v2), (4, .int v4)] → W p l e R_X6_edge s m args below meth c s.heap [] 0 0 (MQ below (vp_Sl (fun r => r = o)) args s 0 0 (fun _ => False)) (F0 m 5 ls [])) : ∀ (v2 : Int64) (v4 : Int32) (t0 : Int32), m_X6_edge_c77  k5 v2 v4 t0 = some o → ∀ (ls : Array Slot), lv_has ls 6 [(0, .ref z0), (1, .int p1), (2, .long v2), (4, .int v4)] → W p l e R_X6_edge s m args below meth c s.heap [] 0 0 (MQ below (vp_Sl (fun r => r = o)) args s 0 0 (fun _ => False)) (F0 m 77 ls [.int t0]) := by
  have hx := hc.1
  have hb := hc.2.1
  have hown := hc.2.2.2.2.1
  have hts := hc.2.2.2.2.2.1
  intro v2 v4 t0 hf ls hl
  refine lv_istore (lv' := [(5, .int t0), (0, .ref z0), (1, .int p1), (2, .long v2), (4, .int v4)]) hx hb dX6_edge_77 hl (by decide) rfl (fun ls hl => ?_)
  refine lv_lload_n hx hb dX6_edge_79 rfl (lv_at hl 3 rfl) ?_
  refine lv_lconst (v := (1 : Int64)) hx hb dX6_edge_80 (by decide) ?_
  refine lv_iload hx hb dX6_edge_81 (lv_at hl 0 rfl) ?_
  refine lv_lshl (v := (jshl (1 : Int64) t0)) hx hb dX6_edge_83 rfl ?_
  refine lv_lor hx hb dX6_edge_84 ?_
  refine lv_lstore_n (lv' := [(2, .long (v2 ||| (jshl (1 : Int64) t0))), (5, .int t0), (0, .ref z0), (1, .int p1), (4, .int v4)]) hx hb dX6_edge_85 rfl hl (by decide) rfl (fun ls hl => ?_)
  refine lv_iinc (v := (v4 + (1 : Int32))) (lv' := [(4, .int (v4 + (1 : Int32))), (2, .long (v2 ||| (jshl (1 : Int64) t0))), (5, .int t0), (0, .ref z0), (1, .int p1)]) hx hb dX6_edge_86 hl (k := 4) rfl rfl (by decide) rfl (fun ls hl => ?_)
  refine lv_goto (tgt := 5) hx hb dX6_edge_89 (by decide) ?_
  exact hk5 (v2 ||| (jshl (1 : Int64) t0)) (v4 + (1 : Int32)) hf ls (lv_sub hl [3, 4, 1, 0] rfl)
def m_X6_edge_c5 (o_n : Int32) (p1 : Int32)  : Nat → Int64 → Int32 → Option (Int64)
  | 0, _, _ => none
  | n + 1, v2, v4 => (if o_n ≤ v4 then some v2 else (if p1 = 0 then (m_X6_edge_c77 (m_X6_edge_c5 o_n p1  n) v2 v4 v4) else (if p1 = (1 : Int32) then (m_X6_edge_c77 (m_X6_edge_c5 o_n p1  n) v2 v4 (((o_n * o_n) - o_n) + v4)) else (if p1 = (2 : Int32) then (m_X6_edge_c77 (m_X6_edge_c5 o_n p1  n) v2 v4 (o_n * v4)) else (m_X6_edge_c77 (m_X6_edge_c5 o_n p1  n) v2 v4 (((o_n * v4) + o_n) - (1 : Int32)))))))
set_option maxHeartbeats 4000000 in
set_option maxRecDepth 100000 in
theorem w_X6_edge_c5 {p : Program} {l : Launch} {e : Env} {s : State} {m : MethodId} {args : Array Value} {below : List Frame} {meth : Method} {c : Code} {D : va_G} {C : Nat → ClassId} {z0 : Nat} {o_n : Int32} {r_o_game : Nat} {o_all : Int32} {o_made : Int32} {o_own0 : Int64} {o_own1 : Int64} {r_o_near : Nat} {r_o_kept : Nat} {r_o_isKept : Nat} {r_o_threatOf : Nat} {r_o_threatSet : Nat} {o_threatMany : Int32} {r_o_text : Nat} {o_length : Int32} {r_o_far : Nat} {r_o_back : Nat} {r_o_hole : Nat} {o_holes : Int32} {r_o_isWon : Nat} {r_o_won : Nat} {r_o_lasts : Nat} {r_o_power : Nat} {r_o_told : Nat} {o_tellings : Int32} {p1 : Int32} {o : Int64} (hc : Cx p s m args meth c yX6_edge cX6_edge 6 (some .long)) (hK : va_K D vwCl (TY C) s) (hP : va_P D vwCl [cX6 z0 o_n r_o_game o_all o_made o_own0 o_own1 r_o_near r_o_kept r_o_isKept r_o_threatOf r_o_threatSet o_threatMany r_o_text o_length r_o_far r_o_back r_o_hole o_holes r_o_isWon r_o_won r_o_lasts r_o_power r_o_told o_tellings] s.heap) : ∀ (n : Nat), ∀ (v2 : Int64) (v4 : Int32), m_X6_edge_c5 o_n p1  n v2 v4 = some o → ∀ (ls : Array Slot), lv_has ls 6 [(0, .ref z0), (1, .int p1), (2, .long v2), (4, .int v4)] → W p l e R_X6_edge s m args below meth c s.heap [] 0 0 (MQ below (vp_Sl (fun r => r = o)) args s 0 0 (fun _ => False)) (F0 m 5 ls []) := by
  have hx := hc.1
  have hb := hc.2.1
  have hown := hc.2.2.2.2.1
  have hts := hc.2.2.2.2.2.1
  intro n
  induction n with
  | zero =>
    intro v2 v4 hf
    exact no_some hf
  | succ n ih =>
    intro v2 v4 hf ls hl
    refine lv_iload hx hb dX6_edge_5 (lv_at hl 3 rfl) ?_
    refine lv_aload_n hx hb dX6_edge_7 rfl (lv_at hl 0 rfl) ?_
    refine va_get (D := D) (ci := 6) (v := .int o_n) (C := RX6) (T := TX6) (N := 24) hx hb hts inX6 hown hK hP 0 rfl rfl 0 (by decide) (hts _ q_654) (fun _ h9 => h9) rfl dX6_edge_8 ?_
    refine lv_icmp_ge (tgt := 92) hx hb dX6_edge_11 (by decide) (fun c1 => ?_) (fun c1 => ?_)
    · have hf := if_t hf c1
      refine lv_lload_n hx hb dX6_edge_92 rfl (lv_at hl 2 rfl) ?_
      exact rRl hc (Option.some.inj hf) dX6_edge_93
    · have hf := if_f hf c1
      refine lv_iload_n hx hb dX6_edge_14 rfl (lv_at hl 1 rfl) ?_
      refine lv_if_ne (tgt := 23) hx hb dX6_edge_15 (by decide) (fun c2 => ?_) (fun c2 => ?_)
      · have hf := if_f hf c2
        refine lv_iload_n hx hb dX6_edge_23 rfl (lv_at hl 1 rfl) ?_
        refine lv_iconst (v := (1 : Int32)) hx hb dX6_edge_24 (by decide) ?_
        refine lv_icmp_ne (tgt := 48) hx hb dX6_edge_25 (by decide) (fun c3 => ?_) (fun c3 => ?_)
        · have hf := if_f hf c3
          refine lv_iload_n hx hb dX6_edge_48 rfl (lv_at hl 1 rfl) ?_
          refine lv_iconst (v := (2 : Int32)) hx hb dX6_edge_49 (by decide) ?_
          refine lv_icmp_ne (tgt := 63) hx hb dX6_edge_50 (by decide) (fun c4 => ?_) (fun c4 => ?_)
          · have hf := if_f hf c4
            refine lv_aload_n hx hb dX6_edge_63 rfl (lv_at hl 0 rfl) ?_
            refine va_get (D := D) (ci := 6) (v := .int o_n) (C := RX6) (T := TX6) (N := 24) hx hb hts inX6 hown hK hP 0 rfl rfl 0 (by decide) (hts _ q_654) (fun _ h9 => h9) rfl dX6_edge_64 ?_
            refine lv_iload hx hb dX6_edge_67 (lv_at hl 3 rfl) ?_
            refine lv_imul hx hb dX6_edge_69 ?_
            refine lv_aload_n hx hb dX6_edge_70 rfl (lv_at hl 0 rfl) ?_
            refine va_get (D := D) (ci := 6) (v := .int o_n) (C := RX6) (T := TX6) (N := 24) hx hb hts inX6 hown hK hP 0 rfl rfl 0 (by decide) (hts _ q_654) (fun _ h9 => h9) rfl dX6_edge_71 ?_
            refine lv_iadd hx hb dX6_edge_74 ?_
            refine lv_iconst (v := (1 : Int32)) hx hb dX6_edge_75 (by decide) ?_
            refine lv_isub hx hb dX6_edge_76 ?_
            exact w_X6_edge_c77 hc hK hP (m_X6_edge_c5 o_n p1  n) ih v2 v4 (((o_n * v4) + o_n) - (1 : Int32)) hf ls (lv_sub hl [0, 1, 2, 3] rfl)
          · have hf := if_t hf c4
            refine lv_aload_n hx hb dX6_edge_53 rfl (lv_at hl 0 rfl) ?_
            refine va_get (D := D) (ci := 6) (v := .int o_n) (C := RX6) (T := TX6) (N := 24) hx hb hts inX6 hown hK hP 0 rfl rfl 0 (by decide) (hts _ q_654) (fun _ h9 => h9) rfl dX6_edge_54 ?_
            refine lv_iload hx hb dX6_edge_57 (lv_at hl 3 rfl) ?_
            refine lv_imul hx hb dX6_edge_59 ?_
            refine lv_goto (tgt := 77) hx hb dX6_edge_60 (by decide) ?_
            exact w_X6_edge_c77 hc hK hP (m_X6_edge_c5 o_n p1  n) ih v2 v4 (o_n * v4) hf ls (lv_sub hl [0, 1, 2, 3] rfl)
        · have hf := if_t hf c3
          refine lv_aload_n hx hb dX6_edge_28 rfl (lv_at hl 0 rfl) ?_
          refine va_get (D := D) (ci := 6) (v := .int o_n) (C := RX6) (T := TX6) (N := 24) hx hb hts inX6 hown hK hP 0 rfl rfl 0 (by decide) (hts _ q_654) (fun _ h9 => h9) rfl dX6_edge_29 ?_
          refine lv_aload_n hx hb dX6_edge_32 rfl (lv_at hl 0 rfl) ?_
          refine va_get (D := D) (ci := 6) (v := .int o_n) (C := RX6) (T := TX6) (N := 24) hx hb hts inX6 hown hK hP 0 rfl rfl 0 (by decide) (hts _ q_654) (fun _ h9 => h9) rfl dX6_edge_33 ?_
          refine lv_imul hx hb dX6_edge_36 ?_
          refine lv_aload_n hx hb dX6_edge_37 rfl (lv_at hl 0 rfl) ?_
          refine va_get (D := D) (ci := 6) (v := .int o_n) (C := RX6) (T := TX6) (N := 24) hx hb hts inX6 hown hK hP 0 rfl rfl 0 (by decide) (hts _ q_654) (fun _ h9 => h9) rfl dX6_edge_38 ?_
          refine lv_isub hx hb dX6_edge_41 ?_
          refine lv_iload hx hb dX6_edge_42 (lv_at hl 3 rfl) ?_
          refine lv_iadd hx hb dX6_edge_44 ?_
          refine lv_goto (tgt := 77) hx hb dX6_edge_45 (by decide) ?_
          exact w_X6_edge_c77 hc hK hP (m_X6_edge_c5 o_n p1  n) ih v2 v4 (((o_n * o_n) - o_n) + v4) hf ls (lv_sub hl [0, 1, 2, 3] rfl)
      · have hf := if_t hf c2
        refine lv_iload hx hb dX6_edge_18 (lv_at hl 3 rfl) ?_
        refine lv_goto (tgt := 77) hx hb dX6_edge_20 (by decide) ?_
        exact w_X6_edge_c77 hc hK hP (m_X6_edge_c5 o_n p1  n) ih v2 v4 v4 hf ls (lv_sub hl [0, 1, 2, 3] rfl)
def m_X6_edge (o_n : Int32) (p1 : Int32) : Option (Int64) := (m_X6_edge_c5 o_n p1 FU (0 : Int64) (0 : Int32))
set_option maxHeartbeats 4000000 in
set_option maxRecDepth 100000 in
theorem c_X6_edge (l : Launch) (D : va_G) (C : Nat → ClassId) (z0 : Nat) (o_n : Int32) (r_o_game : Nat) (o_all : Int32) (o_made : Int32) (o_own0 : Int64) (o_own1 : Int64) (r_o_near : Nat) (r_o_kept : Nat) (r_o_isKept : Nat) (r_o_threatOf : Nat) (r_o_threatSet : Nat) (o_threatMany : Int32) (r_o_text : Nat) (o_length : Int32) (r_o_far : Nat) (r_o_back : Nat) (r_o_hole : Nat) (o_holes : Int32) (r_o_isWon : Nat) (r_o_won : Nat) (r_o_lasts : Nat) (r_o_power : Nat) (r_o_told : Nat) (o_tellings : Int32) (p1 : Int32) (o : Int64) (hf : m_X6_edge o_n p1 = some o) : Met l yX6_edge (wl yX6_edge cX6_edge 6 (some .long)) R_X6_edge (PR [.ref z0, .int p1] D C [cX6 z0 o_n r_o_game o_all o_made o_own0 o_own1 r_o_near r_o_kept r_o_isKept r_o_threatOf r_o_threatSet o_threatMany r_o_text o_length r_o_far r_o_back r_o_hole o_holes r_o_isWon r_o_won r_o_lasts r_o_power r_o_told o_tellings]) (vp_Sl (fun r => r = o)) 0 0 (fun _ => False) := by
  refine Met_ofC (by decide) ?_
  intro p e s m args below meth c hc hv
  obtain ⟨rfl, hP, hK⟩ := hv
  have hx := hc.1
  have hb := hc.2.1
  have hown := hc.2.2.2.2.1
  have hts := hc.2.2.2.2.2.1
  refine en_F rfl (fun ls hl => ?_)
  have hl : lv_has ls 6 [(0, .ref z0), (1, .int p1)] := hl
  refine lv_lconst (v := (0 : Int64)) hx hb dX6_edge_0 (by decide) ?_
  refine lv_lstore_n (lv' := [(2, .long (0 : Int64)), (0, .ref z0), (1, .int p1)]) hx hb dX6_edge_1 rfl hl (by decide) rfl (fun ls hl => ?_)
  refine lv_iconst (v := (0 : Int32)) hx hb dX6_edge_2 (by decide) ?_
  refine lv_istore (lv' := [(4, .int (0 : Int32)), (2, .long (0 : Int64)), (0, .ref z0), (1, .int p1)]) hx hb dX6_edge_3 hl (by decide) rfl (fun ls hl => ?_)
  exact w_X6_edge_c5 hc hK hP  FU (0 : Int64) (0 : Int32) hf ls (lv_sub hl [2, 3, 1, 0] rfl)
abbrev R_X6_around : Room := { frames := 1, cells := 0, slots := 0, locals := 22 }
def m_X6_around_c40  (k5 : Int64 → Int32 → Option (Int64)) (v5 : Int32) (t0 : Int64) (t1 : Int64) : Option (Int64) := (k5 (t1 ||| t0) (v5 + (1 : Int32)))
set_option maxHeartbeats 4000000 in
set_option maxRecDepth 100000 in
theorem w_X6_around_c40 {p : Program} {l : Launch} {e : Env} {s : State} {m : MethodId} {args : Array Value} {below : List Frame} {meth : Method} {c : Code} {D : va_G} {C : Nat → ClassId} {z0 : Nat} {z1 : Nat} {o_n : Int32} {r_o_game : Nat} {o_all : Int32} {o_made : Int32} {o_own0 : Int64} {o_own1 : Int64} {r_o_kept : Nat} {r_o_isKept : Nat} {r_o_threatOf : Nat} {r_o_threatSet : Nat} {o_threatMany : Int32} {r_o_text : Nat} {o_length : Int32} {r_o_far : Nat} {r_o_back : Nat} {r_o_hole : Nat} {o_holes : Int32} {r_o_isWon : Nat} {r_o_won : Nat} {r_o_lasts : Nat} {r_o_power : Nat} {r_o_told : Nat} {o_tellings : Int32} {o_near : Nat → Int64} {p1 : Int64} {o : Int64} (hc : Cx p s m args meth c yX6_around cX6_around 6 (some .long)) (hK : va_K D vwCl (TY C) s) (hP : va_P D vwCl [cX6 z0 o_n r_o_game o_all o_made o_own0 o_own1 z1 r_o_kept r_o_isKept r_o_threatOf r_o_threatSet o_threatMany r_o_text o_length r_o_far r_o_back r_o_hole o_holes r_o_isWon r_o_won r_o_lasts r_o_power r_o_told o_tellings, aJ C z1 49 o_near] s.heap) (k5 : Int64 → Int32 → Option (Int64)) (hk5 : ∀ (v3 : Int64) (v5 : Int32), k5 v3 v5 = some o → ∀ (ls : Array Slot), lv_has ls 6 [(0, .ref z0), (1, .long p1), (3, .long v3), (5, .int v5)] → W p l e R_X6_around s m args below meth c s.heap [] 0 0 (MQ below (vp_Sl (fun r => r = o)) args s 0 0 (fun _ => False)) (F0 m 5 ls [])) : ∀ (v5 : Int32) (t0 : Int64) (t1 : Int64), m_X6_around_c40  k5 v5 t0 t1 = some o → ∀ (ls : Array Slot), lv_has ls 6 [(0, .ref z0), (1, .long p1), (5, .int v5)] → W p l e R_X6_around s m args below meth c s.heap [] 0 0 (MQ below (vp_Sl (fun r => r = o)) args s 0 0 (fun _ => False)) (F0 m 40 ls [.long t0, .long t1]) := by
  have hx := hc.1
  have hb := hc.2.1
  have hown := hc.2.2.2.2.1
  have hts := hc.2.2.2.2.2.1
  intro v5 t0 t1 hf ls hl
  refine lv_lor hx hb dX6_around_40 ?_
  refine lv_lstore_n (lv' := [(3, .long (t1 ||| t0)), (0, .ref z0), (1, .long p1), (5, .int v5)]) hx hb dX6_around_41 rfl hl (by decide) rfl (fun ls hl => ?_)
  refine lv_iinc (v := (v5 + (1 : Int32))) (lv' := [(5, .int (v5 + (1 : Int32))), (3, .long (t1 ||| t0)), (0, .ref z0), (1, .long p1)]) hx hb dX6_around_42 hl (k := 3) rfl rfl (by decide) rfl (fun ls hl => ?_)
  refine lv_goto (tgt := 5) hx hb dX6_around_45 (by decide) ?_
  exact hk5 (t1 ||| t0) (v5 + (1 : Int32)) hf ls (lv_sub hl [2, 3, 1, 0] rfl)
def m_X6_around_c5 (o_n : Int32) (o_near : Nat → Int64) (p1 : Int64)  : Nat → Int64 → Int32 → Option (Int64)
  | 0, _, _ => none
  | n + 1, v3, v5 => (if (o_n * o_n) ≤ v5 then some v3 else (if (m_X6_has p1 v5) = 0 then (m_X6_around_c40 (m_X6_around_c5 o_n o_near p1  n) v5 (0 : Int64) v3) else (if okI v5 49 = true then (m_X6_around_c40 (m_X6_around_c5 o_n o_near p1  n) v5 (o_near v5.toNatClampNeg) v3) else none)))
set_option maxHeartbeats 4000000 in
set_option maxRecDepth 100000 in
theorem w_X6_around_c5 {p : Program} {l : Launch} {e : Env} {s : State} {m : MethodId} {args : Array Value} {below : List Frame} {meth : Method} {c : Code} {D : va_G} {C : Nat → ClassId} {z0 : Nat} {z1 : Nat} {o_n : Int32} {r_o_game : Nat} {o_all : Int32} {o_made : Int32} {o_own0 : Int64} {o_own1 : Int64} {r_o_kept : Nat} {r_o_isKept : Nat} {r_o_threatOf : Nat} {r_o_threatSet : Nat} {o_threatMany : Int32} {r_o_text : Nat} {o_length : Int32} {r_o_far : Nat} {r_o_back : Nat} {r_o_hole : Nat} {o_holes : Int32} {r_o_isWon : Nat} {r_o_won : Nat} {r_o_lasts : Nat} {r_o_power : Nat} {r_o_told : Nat} {o_tellings : Int32} {o_near : Nat → Int64} {p1 : Int64} {o : Int64} (hc : Cx p s m args meth c yX6_around cX6_around 6 (some .long)) (hK : va_K D vwCl (TY C) s) (hP : va_P D vwCl [cX6 z0 o_n r_o_game o_all o_made o_own0 o_own1 z1 r_o_kept r_o_isKept r_o_threatOf r_o_threatSet o_threatMany r_o_text o_length r_o_far r_o_back r_o_hole o_holes r_o_isWon r_o_won r_o_lasts r_o_power r_o_told o_tellings, aJ C z1 49 o_near] s.heap) : ∀ (n : Nat), ∀ (v3 : Int64) (v5 : Int32), m_X6_around_c5 o_n o_near p1  n v3 v5 = some o → ∀ (ls : Array Slot), lv_has ls 6 [(0, .ref z0), (1, .long p1), (3, .long v3), (5, .int v5)] → W p l e R_X6_around s m args below meth c s.heap [] 0 0 (MQ below (vp_Sl (fun r => r = o)) args s 0 0 (fun _ => False)) (F0 m 5 ls []) := by
  have hx := hc.1
  have hb := hc.2.1
  have hown := hc.2.2.2.2.1
  have hts := hc.2.2.2.2.2.1
  intro n
  induction n with
  | zero =>
    intro v3 v5 hf
    exact no_some hf
  | succ n ih =>
    intro v3 v5 hf ls hl
    refine lv_iload hx hb dX6_around_5 (lv_at hl 3 rfl) ?_
    refine lv_aload_n hx hb dX6_around_7 rfl (lv_at hl 0 rfl) ?_
    refine va_get (D := D) (ci := 6) (v := .int o_n) (C := RX6) (T := TX6) (N := 24) hx hb hts inX6 hown hK hP 0 rfl rfl 0 (by decide) (hts _ q_654) (fun _ h9 => h9) rfl dX6_around_8 ?_
    refine lv_aload_n hx hb dX6_around_11 rfl (lv_at hl 0 rfl) ?_
    refine va_get (D := D) (ci := 6) (v := .int o_n) (C := RX6) (T := TX6) (N := 24) hx hb hts inX6 hown hK hP 0 rfl rfl 0 (by decide) (hts _ q_654) (fun _ h9 => h9) rfl dX6_around_12 ?_
    refine lv_imul hx hb dX6_around_15 ?_
    refine lv_icmp_ge (tgt := 48) hx hb dX6_around_16 (by decide) (fun c1 => ?_) (fun c1 => ?_)
    · have hf := if_t hf c1
      refine lv_lload_n hx hb dX6_around_48 rfl (lv_at hl 2 rfl) ?_
      exact rRl hc (Option.some.inj hf) dX6_around_49
    · have hf := if_f hf c1
      refine lv_lload_n hx hb dX6_around_19 rfl (lv_at hl 2 rfl) ?_
      refine lv_lload_n hx hb dX6_around_20 rfl (lv_at hl 1 rfl) ?_
      refine lv_iload hx hb dX6_around_21 (lv_at hl 3 rfl) ?_
      refine rcSi (As := [.long p1, .int v5]) (rest := [.long v3]) hc k_X6_85 (c_X6_has l D C p1 v5  _ rfl) ⟨rfl, rfl, Nat.le_of_ble_eq_true rfl, Nat.le_of_ble_eq_true rfl⟩ (hP.sub [] rfl) hK hl rfl rfl (Nat.le_of_ble_eq_true rfl) ⟨Nat.zero_le _, Nat.zero_le _⟩ dX6_around_23 ?_
      refine lv_if_eq (tgt := 39) hx hb dX6_around_26 (by decide) (fun c2 => ?_) (fun c2 => ?_)
      · have hf := if_t hf c2
        refine lv_lconst (v := (0 : Int64)) hx hb dX6_around_39 (by decide) ?_
        exact w_X6_around_c40 hc hK hP (m_X6_around_c5 o_n o_near p1  n) ih v5 (0 : Int64) v3 hf ls (lv_sub hl [0, 1, 3] rfl)
      · have hf := if_f hf c2
        refine lv_aload_n hx hb dX6_around_29 rfl (lv_at hl 0 rfl) ?_
        refine va_get (D := D) (ci := 6) (v := .ref z1) (C := RX6) (T := TX6) (N := 24) hx hb hts inX6 hown hK hP 0 rfl rfl 6 (by decide) (hts _ q_660) (fun _ h9 => h9) rfl dX6_around_30 ?_
        refine lv_iload hx hb dX6_around_33 (lv_at hl 3 rfl) ?_
        obtain ⟨h3, hf⟩ := ok_t hf
        refine va_lald hx hb hK hP 1 1 rfl rfl (okI_in h3) dX6_around_35 ?_
        refine lv_goto (tgt := 40) hx hb dX6_around_36 (by decide) ?_
        exact w_X6_around_c40 hc hK hP (m_X6_around_c5 o_n o_near p1  n) ih v5 (o_near v5.toNatClampNeg) v3 hf ls (lv_sub hl [0, 1, 3] rfl)
def m_X6_around (o_n : Int32) (o_near : Nat → Int64) (p1 : Int64) : Option (Int64) := (m_X6_around_c5 o_n o_near p1 FU (0 : Int64) (0 : Int32))
set_option maxHeartbeats 4000000 in
set_option maxRecDepth 100000 in
theorem c_X6_around (l : Launch) (D : va_G) (C : Nat → ClassId) (z0 : Nat) (z1 : Nat) (o_n : Int32) (r_o_game : Nat) (o_all : Int32) (o_made : Int32) (o_own0 : Int64) (o_own1 : Int64) (r_o_kept : Nat) (r_o_isKept : Nat) (r_o_threatOf : Nat) (r_o_threatSet : Nat) (o_threatMany : Int32) (r_o_text : Nat) (o_length : Int32) (r_o_far : Nat) (r_o_back : Nat) (r_o_hole : Nat) (o_holes : Int32) (r_o_isWon : Nat) (r_o_won : Nat) (r_o_lasts : Nat) (r_o_power : Nat) (r_o_told : Nat) (o_tellings : Int32) (o_near : Nat → Int64) (p1 : Int64) (o : Int64) (hf : m_X6_around o_n o_near p1 = some o) : Met l yX6_around (wl yX6_around cX6_around 6 (some .long)) R_X6_around (PR [.ref z0, .long p1] D C [cX6 z0 o_n r_o_game o_all o_made o_own0 o_own1 z1 r_o_kept r_o_isKept r_o_threatOf r_o_threatSet o_threatMany r_o_text o_length r_o_far r_o_back r_o_hole o_holes r_o_isWon r_o_won r_o_lasts r_o_power r_o_told o_tellings, aJ C z1 49 o_near]) (vp_Sl (fun r => r = o)) 0 0 (fun _ => False) := by
  refine Met_ofC (by decide) ?_
  intro p e s m args below meth c hc hv
  obtain ⟨rfl, hP, hK⟩ := hv
  have hx := hc.1
  have hb := hc.2.1
  have hown := hc.2.2.2.2.1
  have hts := hc.2.2.2.2.2.1
  refine en_F rfl (fun ls hl => ?_)
  have hl : lv_has ls 6 [(0, .ref z0), (1, .long p1)] := hl
  refine lv_lconst (v := (0 : Int64)) hx hb dX6_around_0 (by decide) ?_
  refine lv_lstore_n (lv' := [(3, .long (0 : Int64)), (0, .ref z0), (1, .long p1)]) hx hb dX6_around_1 rfl hl (by decide) rfl (fun ls hl => ?_)
  refine lv_iconst (v := (0 : Int32)) hx hb dX6_around_2 (by decide) ?_
  refine lv_istore (lv' := [(5, .int (0 : Int32)), (3, .long (0 : Int64)), (0, .ref z0), (1, .long p1)]) hx hb dX6_around_3 hl (by decide) rfl (fun ls hl => ?_)
  exact w_X6_around_c5 hc hK hP  FU (0 : Int64) (0 : Int32) hf ls (lv_sub hl [2, 3, 1, 0] rfl)
abbrev R_X6_reach : Room := { frames := 2, cells := 0, slots := 0, locals := 47 }
def m_X6_reach_c8 (o_n : Int32) (o_near : Nat → Int64) (p2 : Int64)  : Nat → Int64 → Int64 → Option (Int64)
  | 0, _, _ => none
  | n + 1, v5, v7 => (if v7 = v5 then some v5 else ((m_X6_around o_n o_near v5).bind fun u2 => (m_X6_reach_c8 o_n o_near p2  n (v5 ||| (u2 &&& p2)) v5)))
set_option maxHeartbeats 4000000 in
set_option maxRecDepth 100000 in
theorem w_X6_reach_c8 {p : Program} {l : Launch} {e : Env} {s : State} {m : MethodId} {args : Array Value} {below : List Frame} {meth : Method} {c : Code} {D : va_G} {C : Nat → ClassId} {z0 : Nat} {z1 : Nat} {o_n : Int32} {r_o_game : Nat} {o_all : Int32} {o_made : Int32} {o_own0 : Int64} {o_own1 : Int64} {r_o_kept : Nat} {r_o_isKept : Nat} {r_o_threatOf : Nat} {r_o_threatSet : Nat} {o_threatMany : Int32} {r_o_text : Nat} {o_length : Int32} {r_o_far : Nat} {r_o_back : Nat} {r_o_hole : Nat} {o_holes : Int32} {r_o_isWon : Nat} {r_o_won : Nat} {r_o_lasts : Nat} {r_o_power : Nat} {r_o_told : Nat} {o_tellings : Int32} {o_near : Nat → Int64} {p2 : Int64} {o : Int64} (hc : Cx p s m args meth c yX6_reach cX6_reach 9 (some .long)) (hK : va_K D vwCl (TY C) s) (hP : va_P D vwCl [cX6 z0 o_n r_o_game o_all o_made o_own0 o_own1 z1 r_o_kept r_o_isKept r_o_threatOf r_o_threatSet o_threatMany r_o_text o_length r_o_far r_o_back r_o_hole o_holes r_o_isWon r_o_won r_o_lasts r_o_power r_o_told o_tellings, aJ C z1 49 o_near] s.heap) : ∀ (n : Nat), ∀ (v5 : Int64) (v7 : Int64), m_X6_reach_c8 o_n o_near p2  n v5 v7 = some o → ∀ (ls : Array Slot), lv_has ls 9 [(0, .ref z0), (3, .long p2), (5, .long v5), (7, .long v7)] → W p l e R_X6_reach s m args below meth c s.heap [] 0 0 (MQ below (vp_Sl (fun r => r = o)) args s 0 0 (fun _ => False)) (F0 m 8 ls []) := by
  have hx := hc.1
  have hb := hc.2.1
  have hown := hc.2.2.2.2.1
  have hts := hc.2.2.2.2.2.1
  intro n
  induction n with
  | zero =>
    intro v5 v7 hf
    exact no_some hf
  | succ n ih =>
    intro v5 v7 hf ls hl
    refine lv_lload hx hb dX6_reach_8 (lv_at hl 3 rfl) ?_
    refine lv_lload hx hb dX6_reach_10 (lv_at hl 2 rfl) ?_
    refine lc_eq (tgt := 36) hx hb dX6_reach_12 dX6_reach_13 (by decide) (fun c1 => ?_) (fun c1 => ?_)
    · have hf := if_t hf c1
      refine lv_lload hx hb dX6_reach_36 (lv_at hl 2 rfl) ?_
      exact rRl hc (Option.some.inj hf) dX6_reach_38
    · have hf := if_f hf c1
      refine lv_lload hx hb dX6_reach_16 (lv_at hl 2 rfl) ?_
      refine lv_lstore (lv' := [(7, .long v5), (0, .ref z0), (3, .long p2), (5, .long v5)]) hx hb dX6_reach_18 hl (by decide) rfl (fun ls hl => ?_)
      refine lv_lload hx hb dX6_reach_20 (lv_at hl 3 rfl) ?_
      refine lv_aload_n hx hb dX6_reach_22 rfl (lv_at hl 1 rfl) ?_
      refine lv_lload hx hb dX6_reach_23 (lv_at hl 3 rfl) ?_
      obtain ⟨u2, hu2, hf⟩ := bind_some hf
      refine rcVl (As := [.long v5]) (rest := [.long v5]) hc k_X6_89 (c_X6_around l D C z0 z1 o_n r_o_game o_all o_made o_own0 o_own1 r_o_kept r_o_isKept r_o_threatOf r_o_threatSet o_threatMany r_o_text o_length r_o_far r_o_back r_o_hole o_holes r_o_isWon r_o_won r_o_lasts r_o_power r_o_told o_tellings o_near v5  _ hu2) ⟨rfl, rfl, Nat.le_of_ble_eq_true rfl, Nat.le_of_ble_eq_true rfl⟩ (hP.sub [0, 1] rfl) hK (q0 := 0) rfl rfl rfl hl rfl rfl (Nat.le_of_ble_eq_true rfl) ⟨Nat.zero_le _, Nat.zero_le _⟩ dX6_reach_25 ?_
      refine lv_lload_n hx hb dX6_reach_28 rfl (lv_at hl 2 rfl) ?_
      refine lv_land hx hb dX6_reach_29 ?_
      refine lv_lor hx hb dX6_reach_30 ?_
      refine lv_lstore (lv' := [(5, .long (v5 ||| (u2 &&& p2))), (7, .long v5), (0, .ref z0), (3, .long p2)]) hx hb dX6_reach_31 hl (by decide) rfl (fun ls hl => ?_)
      refine lv_goto (tgt := 8) hx hb dX6_reach_33 (by decide) ?_
      exact ih (v5 ||| (u2 &&& p2)) v5 hf ls (lv_sub hl [2, 3, 0, 1] rfl)
def m_X6_reach (o_n : Int32) (o_near : Nat → Int64) (p1 : Int64) (p2 : Int64) : Option (Int64) := (m_X6_reach_c8 o_n o_near p2 FU (p1 &&& p2) (0 : Int64))
set_option maxHeartbeats 4000000 in
set_option maxRecDepth 100000 in
theorem c_X6_reach (l : Launch) (D : va_G) (C : Nat → ClassId) (z0 : Nat) (z1 : Nat) (o_n : Int32) (r_o_game : Nat) (o_all : Int32) (o_made : Int32) (o_own0 : Int64) (o_own1 : Int64) (r_o_kept : Nat) (r_o_isKept : Nat) (r_o_threatOf : Nat) (r_o_threatSet : Nat) (o_threatMany : Int32) (r_o_text : Nat) (o_length : Int32) (r_o_far : Nat) (r_o_back : Nat) (r_o_hole : Nat) (o_holes : Int32) (r_o_isWon : Nat) (r_o_won : Nat) (r_o_lasts : Nat) (r_o_power : Nat) (r_o_told : Nat) (o_tellings : Int32) (o_near : Nat → Int64) (p1 : Int64) (p2 : Int64) (o : Int64) (hf : m_X6_reach o_n o_near p1 p2 = some o) : Met l yX6_reach (wl yX6_reach cX6_reach 9 (some .long)) R_X6_reach (PR [.ref z0, .long p1, .long p2] D C [cX6 z0 o_n r_o_game o_all o_made o_own0 o_own1 z1 r_o_kept r_o_isKept r_o_threatOf r_o_threatSet o_threatMany r_o_text o_length r_o_far r_o_back r_o_hole o_holes r_o_isWon r_o_won r_o_lasts r_o_power r_o_told o_tellings, aJ C z1 49 o_near]) (vp_Sl (fun r => r = o)) 0 0 (fun _ => False) := by
  refine Met_ofC (by decide) ?_
  intro p e s m args below meth c hc hv
  obtain ⟨rfl, hP, hK⟩ := hv
  have hx := hc.1
  have hb := hc.2.1
  have hown := hc.2.2.2.2.1
  have hts := hc.2.2.2.2.2.1
  refine en_F rfl (fun ls hl => ?_)
  have hl : lv_has ls 9 [(0, .ref z0), (1, .long p1), (3, .long p2)] := hl
  refine lv_lload_n hx hb dX6_reach_0 rfl (lv_at hl 1 rfl) ?_
  refine lv_lload_n hx hb dX6_reach_1 rfl (lv_at hl 2 rfl) ?_
  refine lv_land hx hb dX6_reach_2 ?_
  refine lv_lstore (lv' := [(5, .long (p1 &&& p2)), (0, .ref z0), (1, .long p1), (3, .long p2)]) hx hb dX6_reach_3 hl (by decide) rfl (fun ls hl => ?_)
  refine lv_lconst (v := (0 : Int64)) hx hb dX6_reach_5 (by decide) ?_
  refine lv_lstore (lv' := [(7, .long (0 : Int64)), (5, .long (p1 &&& p2)), (0, .ref z0), (1, .long p1), (3, .long p2)]) hx hb dX6_reach_6 hl (by decide) rfl (fun ls hl => ?_)
  exact w_X6_reach_c8 hc hK hP  FU (p1 &&& p2) (0 : Int64) hf ls (lv_sub hl [2, 4, 1, 0] rfl)
abbrev R_X6_wins : Room := { frames := 3, cells := 0, slots := 0, locals := 75 }
def m_X6_wins (o_n : Int32) (o_near : Nat → Int64) (p1 : Int32) (p2 : Int64) : Option (Int32) := ((m_X6_edge o_n ((2 : Int32) * p1)).bind fun u1 => ((m_X6_reach o_n o_near u1 p2).bind fun u2 => ((m_X6_edge o_n (((2 : Int32) * p1) + (1 : Int32))).bind fun u3 => (if (u2 &&& u3) = (0 : Int64) then some (0 : Int32) else some (1 : Int32)))))
set_option maxHeartbeats 4000000 in
set_option maxRecDepth 100000 in
theorem c_X6_wins (l : Launch) (D : va_G) (C : Nat → ClassId) (z0 : Nat) (z1 : Nat) (o_n : Int32) (r_o_game : Nat) (o_all : Int32) (o_made : Int32) (o_own0 : Int64) (o_own1 : Int64) (r_o_kept : Nat) (r_o_isKept : Nat) (r_o_threatOf : Nat) (r_o_threatSet : Nat) (o_threatMany : Int32) (r_o_text : Nat) (o_length : Int32) (r_o_far : Nat) (r_o_back : Nat) (r_o_hole : Nat) (o_holes : Int32) (r_o_isWon : Nat) (r_o_won : Nat) (r_o_lasts : Nat) (r_o_power : Nat) (r_o_told : Nat) (o_tellings : Int32) (o_near : Nat → Int64) (p1 : Int32) (p2 : Int64) (o : Int32) (hf : m_X6_wins o_n o_near p1 p2 = some o) : Met l yX6_wins (wl yX6_wins cX6_wins 4 (some .boolean)) R_X6_wins (PR [.ref z0, .int p1, .long p2] D C [cX6 z0 o_n r_o_game o_all o_made o_own0 o_own1 z1 r_o_kept r_o_isKept r_o_threatOf r_o_threatSet o_threatMany r_o_text o_length r_o_far r_o_back r_o_hole o_holes r_o_isWon r_o_won r_o_lasts r_o_power r_o_told o_tellings, aJ C z1 49 o_near]) (vp_Si (fun r => r = o)) 0 0 (fun _ => False) := by
  refine Met_ofC (by decide) ?_
  intro p e s m args below meth c hc hv
  obtain ⟨rfl, hP, hK⟩ := hv
  have hx := hc.1
  have hb := hc.2.1
  have hown := hc.2.2.2.2.1
  have hts := hc.2.2.2.2.2.1
  refine en_F rfl (fun ls hl => ?_)
  have hl : lv_has ls 4 [(0, .ref z0), (1, .int p1), (2, .long p2)] := hl
  refine lv_aload_n hx hb dX6_wins_0 rfl (lv_at hl 0 rfl) ?_
  refine lv_aload_n hx hb dX6_wins_1 rfl (lv_at hl 0 rfl) ?_
  refine lv_iconst (v := (2 : Int32)) hx hb dX6_wins_2 (by decide) ?_
  refine lv_iload_n hx hb dX6_wins_3 rfl (lv_at hl 1 rfl) ?_
  refine lv_imul hx hb dX6_wins_4 ?_
  obtain ⟨u1, hu1, hf⟩ := bind_some hf
  refine rcVl (As := [.int ((2 : Int32) * p1)]) (rest := [.ref z0]) hc k_X6_93 (c_X6_edge l D C z0 o_n r_o_game o_all o_made o_own0 o_own1 z1 r_o_kept r_o_isKept r_o_threatOf r_o_threatSet o_threatMany r_o_text o_length r_o_far r_o_back r_o_hole o_holes r_o_isWon r_o_won r_o_lasts r_o_power r_o_told o_tellings ((2 : Int32) * p1)  _ hu1) ⟨rfl, rfl, Nat.le_of_ble_eq_true rfl, Nat.le_of_ble_eq_true rfl⟩ (hP.sub [0] rfl) hK (q0 := 0) rfl rfl rfl hl rfl rfl (Nat.le_of_ble_eq_true rfl) ⟨Nat.zero_le _, Nat.zero_le _⟩ dX6_wins_5 ?_
  refine lv_lload_n hx hb dX6_wins_8 rfl (lv_at hl 2 rfl) ?_
  obtain ⟨u2, hu2, hf⟩ := bind_some hf
  refine rcVl (As := [.long u1, .long p2]) (rest := []) hc k_X6_97 (c_X6_reach l D C z0 z1 o_n r_o_game o_all o_made o_own0 o_own1 r_o_kept r_o_isKept r_o_threatOf r_o_threatSet o_threatMany r_o_text o_length r_o_far r_o_back r_o_hole o_holes r_o_isWon r_o_won r_o_lasts r_o_power r_o_told o_tellings o_near u1 p2  _ hu2) ⟨rfl, rfl, Nat.le_of_ble_eq_true rfl, Nat.le_of_ble_eq_true rfl⟩ (hP.sub [0, 1] rfl) hK (q0 := 0) rfl rfl rfl hl rfl rfl (Nat.le_of_ble_eq_true rfl) ⟨Nat.zero_le _, Nat.zero_le _⟩ dX6_wins_9 ?_
  refine lv_aload_n hx hb dX6_wins_12 rfl (lv_at hl 0 rfl) ?_
  refine lv_iconst (v := (2 : Int32)) hx hb dX6_wins_13 (by decide) ?_
  refine lv_iload_n hx hb dX6_wins_14 rfl (lv_at hl 1 rfl) ?_
  refine lv_imul hx hb dX6_wins_15 ?_
  refine lv_iconst (v := (1 : Int32)) hx hb dX6_wins_16 (by decide) ?_
  refine lv_iadd hx hb dX6_wins_17 ?_
  obtain ⟨u3, hu3, hf⟩ := bind_some hf
  refine rcVl (As := [.int (((2 : Int32) * p1) + (1 : Int32))]) (rest := [.long u2]) hc k_X6_93 (c_X6_edge l D C z0 o_n r_o_game o_all o_made o_own0 o_own1 z1 r_o_kept r_o_isKept r_o_threatOf r_o_threatSet o_threatMany r_o_text o_length r_o_far r_o_back r_o_hole o_holes r_o_isWon r_o_won r_o_lasts r_o_power r_o_told o_tellings (((2 : Int32) * p1) + (1 : Int32))  _ hu3) ⟨rfl, rfl, Nat.le_of_ble_eq_true rfl, Nat.le_of_ble_eq_true rfl⟩ (hP.sub [0] rfl) hK (q0 := 0) rfl rfl rfl hl rfl rfl (Nat.le_of_ble_eq_true rfl) ⟨Nat.zero_le _, Nat.zero_le _⟩ dX6_wins_18 ?_
  refine lv_land hx hb dX6_wins_21 ?_
  refine lv_lconst (v := (0 : Int64)) hx hb dX6_wins_22 (by decide) ?_
  refine lc_eq (tgt := 31) hx hb dX6_wins_23 dX6_wins_24 (by decide) (fun c4 => ?_) (fun c4 => ?_)
  · have hf := if_t hf c4
    refine lv_iconst (v := (0 : Int32)) hx hb dX6_wins_31 (by decide) ?_
    exact rRz hc rfl (Option.some.inj hf) dX6_wins_32
  · have hf := if_f hf c4
    refine lv_iconst (v := (1 : Int32)) hx hb dX6_wins_27 (by decide) ?_
    refine lv_goto (tgt := 32) hx hb dX6_wins_28 (by decide) ?_
    exact rRz hc rfl (Option.some.inj hf) dX6_wins_32
abbrev R_X6_winnerNow : Room := { frames := 4, cells := 0, slots := 0, locals := 98 }
def m_X6_winnerNow (o_n : Int32) (o_own0 : Int64) (o_own1 : Int64) (o_near : Nat → Int64) : Option (Int32) := ((m_X6_wins o_n o_near (0 : Int32) o_own0).bind fun u1 => (if u1 = 0 then ((m_X6_wins o_n o_near (1 : Int32) o_own1).bind fun u3 => (if u3 = 0 then some (-15 : Int32) else some (1 : Int32))) else some (0 : Int32)))
set_option maxHeartbeats 4000000 in
set_option maxRecDepth 100000 in
theorem c_X6_winnerNow (l : Launch) (D : va_G) (C : Nat → ClassId) (z0 : Nat) (z1 : Nat) (o_n : Int32) (r_o_game : Nat) (o_all : Int32) (o_made : Int32) (o_own0 : Int64) (o_own1 : Int64) (r_o_kept : Nat) (r_o_isKept : Nat) (r_o_threatOf : Nat) (r_o_threatSet : Nat) (o_threatMany : Int32) (r_o_text : Nat) (o_length : Int32) (r_o_far : Nat) (r_o_back : Nat) (r_o_hole : Nat) (o_holes : Int32) (r_o_isWon : Nat) (r_o_won : Nat) (r_o_lasts : Nat) (r_o_power : Nat) (r_o_told : Nat) (o_tellings : Int32) (o_near : Nat → Int64) (o : Int32) (hf : m_X6_winnerNow o_n o_own0 o_own1 o_near = some o) : Met l yX6_winnerNow (wl yX6_winnerNow cX6_winnerNow 1 (some .int)) R_X6_winnerNow (PR [.ref z0] D C [cX6 z0 o_n r_o_game o_all o_made o_own0 o_own1 z1 r_o_kept r_o_isKept r_o_threatOf r_o_threatSet o_threatMany r_o_text o_length r_o_far r_o_back r_o_hole o_holes r_o_isWon r_o_won r_o_lasts r_o_power r_o_told o_tellings, aJ C z1 49 o_near]) (vp_Si (fun r => r = o)) 0 0 (fun _ => False) := by
  refine Met_ofC (by decide) ?_
  intro p e s m args below meth c hc hv
  obtain ⟨rfl, hP, hK⟩ := hv
  have hx := hc.1
  have hb := hc.2.1
  have hown := hc.2.2.2.2.1
  have hts := hc.2.2.2.2.2.1
  refine en_F rfl (fun ls hl => ?_)
  have hl : lv_has ls 1 [(0, .ref z0)] := hl
  refine lv_aload_n hx hb dX6_winnerNow_0 rfl (lv_at hl 0 rfl) ?_
  refine lv_iconst (v := (0 : Int32)) hx hb dX6_winnerNow_1 (by decide) ?_
  refine lv_aload_n hx hb dX6_winnerNow_2 rfl (lv_at hl 0 rfl) ?_
  refine va_get (D := D) (ci := 6) (v := .long o_own0) (C := RX6) (T := TX6) (N := 24) hx hb hts inX6 hown hK hP 0 rfl rfl 4 (by decide) (hts _ q_658) (fun _ h9 => h9) rfl dX6_winnerNow_3 ?_
  obtain ⟨u1, hu1, hf⟩ := bind_some hf
  refine rcVi (As := [.int (0 : Int32), .long o_own0]) (rest := []) hc k_X6_101 (c_X6_wins l D C z0 z1 o_n r_o_game o_all o_made o_own0 o_own1 r_o_kept r_o_isKept r_o_threatOf r_o_threatSet o_threatMany r_o_text o_length r_o_far r_o_back r_o_hole o_holes r_o_isWon r_o_won r_o_lasts r_o_power r_o_told o_tellings o_near (0 : Int32) o_own0  _ hu1) ⟨rfl, rfl, Nat.le_of_ble_eq_true rfl, Nat.le_of_ble_eq_true rfl⟩ (hP.sub [0, 1] rfl) hK (q0 := 0) rfl rfl rfl hl rfl rfl (Nat.le_of_ble_eq_true rfl) ⟨Nat.zero_le _, Nat.zero_le _⟩ dX6_winnerNow_6 ?_
  refine lv_if_eq (tgt := 16) hx hb dX6_winnerNow_9 (by decide) (fun c2 => ?_) (fun c2 => ?_)
  · have hf := if_t hf c2
    refine lv_aload_n hx hb dX6_winnerNow_16 rfl (lv_at hl 0 rfl) ?_
    refine lv_iconst (v := (1 : Int32)) hx hb dX6_winnerNow_17 (by decide) ?_
    refine lv_aload_n hx hb dX6_winnerNow_18 rfl (lv_at hl 0 rfl) ?_
    refine va_get (D := D) (ci := 6) (v := .long o_own1) (C := RX6) (T := TX6) (N := 24) hx hb hts inX6 hown hK hP 0 rfl rfl 5 (by decide) (hts _ q_659) (fun _ h9 => h9) rfl dX6_winnerNow_19 ?_
    obtain ⟨u3, hu3, hf⟩ := bind_some hf
    refine rcVi (As := [.int (1 : Int32), .long o_own1]) (rest := []) hc k_X6_101 (c_X6_wins l D C z0 z1 o_n r_o_game o_all o_made o_own0 o_own1 r_o_kept r_o_isKept r_o_threatOf r_o_threatSet o_threatMany r_o_text o_length r_o_far r_o_back r_o_hole o_holes r_o_isWon r_o_won r_o_lasts r_o_power r_o_told o_tellings o_near (1 : Int32) o_own1  _ hu3) ⟨rfl, rfl, Nat.le_of_ble_eq_true rfl, Nat.le_of_ble_eq_true rfl⟩ (hP.sub [0, 1] rfl) hK (q0 := 0) rfl rfl rfl hl rfl rfl (Nat.le_of_ble_eq_true rfl) ⟨Nat.zero_le _, Nat.zero_le _⟩ dX6_winnerNow_22 ?_
    refine lv_if_eq (tgt := 32) hx hb dX6_winnerNow_25 (by decide) (fun c4 => ?_) (fun c4 => ?_)
    · have hf := if_t hf c4
      refine lv_bipush (v := (-15 : Int32)) hx hb dX6_winnerNow_32 (by decide) ?_
      exact rRi hc (Option.some.inj hf) dX6_winnerNow_34
    · have hf := if_f hf c4
      refine lv_iconst (v := (1 : Int32)) hx hb dX6_winnerNow_28 (by decide) ?_
      refine lv_goto (tgt := 34) hx hb dX6_winnerNow_29 (by decide) ?_
      exact rRi hc (Option.some.inj hf) dX6_winnerNow_34
  · have hf := if_f hf c2
    refine lv_iconst (v := (0 : Int32)) hx hb dX6_winnerNow_12 (by decide) ?_
    refine lv_goto (tgt := 34) hx hb dX6_winnerNow_13 (by decide) ?_
    exact rRi hc (Option.some.inj hf) dX6_winnerNow_34
abbrev R_X6_lays : Room := { frames := 0, cells := 0, slots := 0, locals := 0 }
def m_X6_lays (o_n : Int32) (o_own0 : Int64) (o_own1 : Int64) (o_game : Nat → Int32) (p1 : Int32) (p2 : Int32) : Option (Int64 × Int64) := (if p1 = (-16 : Int32) then (if o_n = 0 then none else (if o_n = 0 then none else some ((0 : Int64), (jshl (1 : Int64) (((jirem (o_game (0 : Int32).toNatClampNeg) o_n) * o_n) + ((o_game (0 : Int32).toNatClampNeg) / o_n)))))) else (if p2 = 0 then some ((o_own0 ||| (jshl (1 : Int64) p1)), o_own1) else some (o_own0, (o_own1 ||| (jshl (1 : Int64) p1)))))
set_option maxHeartbeats 4000000 in
set_option maxRecDepth 100000 in
theorem c_X6_lays (l : Launch) (D : va_G) (C : Nat → ClassId) (sz : Nat) (a0 : Nat) (a1 : Nat) (a2 : Nat) (a3 : Nat) (a4 : Nat) (a5 : Nat) (a6 : Nat) (a7 : Nat) (a8 : Nat) (a9 : Nat) (a10 : Nat) (a11 : Nat) (a12 : Nat) (a13 : Nat) (a14 : Nat) (a15 : Nat) (o_n : Int32) (o_all : Int32) (o_made : Int32) (o_own0 : Int64) (o_own1 : Int64) (o_threatMany : Int32) (o_length : Int32) (o_holes : Int32) (o_tellings : Int32) (o_game : Nat → Int32) (o_near : Nat → Int64) (o_kept : Nat → Int32) (o_isKept : Nat → Int32) (o_threatOf : Nat → Int32) (o_threatSet : Nat → Int64) (o_text : Nat → Int32) (o_far : Nat → Int32) (o_back : Nat → Int32) (o_hole : Nat → Int32) (o_isWon : Nat → Int32) (o_won : Nat → Int32) (o_lasts : Nat → Int32) (o_power : Nat → Int32) (o_told : Nat → Int32) (p1 : Int32) (p2 : Int32) (o : Int64 × Int64) (hf : m_X6_lays o_n o_own0 o_own1 o_game p1 p2 = some o) : Met l yX6_lays (wl yX6_lays cX6_lays 4 none) R_X6_lays (PW [.ref a0, .int p1, .int p2] D C sz (wX6 C a0 a1 a2 a3 a4 a5 a6 a7 a8 a9 a10 a11 a12 a13 a14 a15 o_n o_all o_made o_own0 o_own1 o_threatMany o_length o_holes o_tellings o_game o_near o_kept o_isKept o_threatOf o_threatSet o_text o_far o_back o_hole o_isWon o_won o_lasts o_power o_told) ([] : va_W)) (QWv D (wX6 C a0 a1 a2 a3 a4 a5 a6 a7 a8 a9 a10 a11 a12 a13 a14 a15 o_n o_all o_made o.1 o.2 o_threatMany o_length o_holes o_tellings o_game o_near o_kept o_isKept o_threatOf o_threatSet o_text o_far o_back o_hole o_isWon o_won o_lasts o_power o_told) (va_A (wX6 C a0 a1 a2 a3 a4 a5 a6 a7 a8 a9 a10 a11 a12 a13 a14 a15 o_n o_all o_made o_own0 o_own1 o_threatMany o_length o_holes o_tellings o_game o_near o_kept o_isKept o_threatOf o_threatSet o_text o_far o_back o_hole o_isWon o_won o_lasts o_power o_told) sz)) 0 0 (va_A (wX6 C a0 a1 a2 a3 a4 a5 a6 a7 a8 a9 a10 a11 a12 a13 a14 a15 o_n o_all o_made o_own0 o_own1 o_threatMany o_length o_holes o_tellings o_game o_near o_kept o_isKept o_threatOf o_threatSet o_text o_far o_back o_hole o_isWon o_won o_lasts o_power o_told) sz) := by
  refine Met_ofC (by decide) ?_
  intro p e s m args below meth c hc hv
  obtain ⟨rfl, hsz, hP, hK, hD0, hO, hN0⟩ := hv
  subst hsz
  have hD := hD0.self (sz := s.heap.size)
  have hN : ∀ q ∈ ([] : va_W), ¬ va_A (wX6 C a0 a1 a2 a3 a4 a5 a6 a7 a8 a9 a10 a11 a12 a13 a14 a15 o_n o_all o_made o_own0 o_own1 o_threatMany o_length o_holes o_tellings o_game o_near o_kept o_isKept o_threatOf o_threatSet o_text o_far o_back o_hole o_isWon o_won o_lasts o_power o_told) s.heap.size q.1 := hN0
  generalize hAe : va_A (wX6 C a0 a1 a2 a3 a4 a5 a6 a7 a8 a9 a10 a11 a12 a13 a14 a15 o_n o_all o_made o_own0 o_own1 o_threatMany o_length o_holes o_tellings o_game o_near o_kept o_isKept o_threatOf o_threatSet o_text o_far o_back o_hole o_isWon o_won o_lasts o_power o_told) s.heap.size = A at hD hN ⊢
  have hA : ∀ q : Nat, s.heap.size ≤ q → A q := fun q h => by rw [← hAe]; exact Or.inr h
  have hS : va_S A s.heap s.heap [] := va_S.rf
  have hx := hc.1
  have hb := hc.2.1
  have hown := hc.2.2.2.2.1
  have hts := hc.2.2.2.2.2.1
  refine en_F rfl (fun ls hl => ?_)
  have hl : lv_has ls 4 [(0, .ref a0), (1, .int p1), (2, .int p2)] := hl
  refine lv_iload_n hx hb dX6_lays_0 rfl (lv_at hl 1 rfl) ?_
  refine lv_bipush (v := (-16 : Int32)) hx hb dX6_lays_1 (by decide) ?_
  refine lv_icmp_ne (tgt := 45) hx hb dX6_lays_3 (by decide) (fun c1 => ?_) (fun c1 => ?_)
  · have hf := if_f hf c1
    refine lv_iload_n hx hb dX6_lays_45 rfl (lv_at hl 2 rfl) ?_
    refine lv_if_ne (tgt := 64) hx hb dX6_lays_46 (by decide) (fun c2 => ?_) (fun c2 => ?_)
    · have hf := if_f hf c2
      refine lv_aload_n hx hb dX6_lays_64 rfl (lv_at hl 0 rfl) ?_
      refine lv_dup hx hb dX6_lays_65 rfl ?_
      refine va_get (D := D) (ci := 6) (v := .long o_own1) (C := RX6) (T := TX6) (N := 24) hx hb hts inX6 hown hK hP 0 rfl rfl 5 (by decide) (hts _ q_659) (fun _ h9 => h9) rfl dX6_lays_66 ?_
      refine lv_lconst (v := (1 : Int64)) hx hb dX6_lays_69 (by decide) ?_
      refine lv_iload_n hx hb dX6_lays_70 rfl (lv_at hl 1 rfl) ?_
      refine lv_lshl (v := (jshl (1 : Int64) p1)) hx hb dX6_lays_71 rfl ?_
      refine lv_lor hx hb dX6_lays_72 ?_
      refine va_put (D := D) (ci := 6) (v := .long (o_own1 ||| (jshl (1 : Int64) p1))) (ty := .long) (C := RX6) (T := TX6) (N := 24) hx hb hts inX6 tyX6 tyX6_ok nmX6 hown hK hP hD hS 0 rfl rfl 5 (by decide) (hts _ q_659) (fun _ h9 => h9) rfl (by decide +kernel) rfl rfl (Nat.le_of_ble_eq_true rfl) dX6_lays_73 (fun H locs hP hD hS => ?_)
      have hP : va_P D vwCl (wX6 C a0 a1 a2 a3 a4 a5 a6 a7 a8 a9 a10 a11 a12 a13 a14 a15 o_n o_all o_made o_own0 (o_own1 ||| (jshl (1 : Int64) p1)) o_threatMany o_length o_holes o_tellings o_game o_near o_kept o_isKept o_threatOf o_threatSet o_text o_far o_back o_hole o_isWon o_won o_lasts o_power o_told) H := hP
      have hD : va_D A (wX6 C a0 a1 a2 a3 a4 a5 a6 a7 a8 a9 a10 a11 a12 a13 a14 a15 o_n o_all o_made o_own0 (o_own1 ||| (jshl (1 : Int64) p1)) o_threatMany o_length o_holes o_tellings o_game o_near o_kept o_isKept o_threatOf o_threatSet o_text o_far o_back o_hole o_isWon o_won o_lasts o_power o_told) := hD
      have hf := Option.some.inj hf
      subst hf
      exact rWv hc hP hD hS dX6_lays_76
    · have hf := if_t hf c2
      refine lv_aload_n hx hb dX6_lays_49 rfl (lv_at hl 0 rfl) ?_
      refine lv_dup hx hb dX6_lays_50 rfl ?_
      refine va_get (D := D) (ci := 6) (v := .long o_own0) (C := RX6) (T := TX6) (N := 24) hx hb hts inX6 hown hK hP 0 rfl rfl 4 (by decide) (hts _ q_658) (fun _ h9 => h9) rfl dX6_lays_51 ?_
      refine lv_lconst (v := (1 : Int64)) hx hb dX6_lays_54 (by decide) ?_
      refine lv_iload_n hx hb dX6_lays_55 rfl (lv_at hl 1 rfl) ?_
      refine lv_lshl (v := (jshl (1 : Int64) p1)) hx hb dX6_lays_56 rfl ?_
      refine lv_lor hx hb dX6_lays_57 ?_
      refine va_put (D := D) (ci := 6) (v := .long (o_own0 ||| (jshl (1 : Int64) p1))) (ty := .long) (C := RX6) (T := TX6) (N := 24) hx hb hts inX6 tyX6 tyX6_ok nmX6 hown hK hP hD hS 0 rfl rfl 4 (by decide) (hts _ q_658) (fun _ h9 => h9) rfl (by decide +kernel) rfl rfl (Nat.le_of_ble_eq_true rfl) dX6_lays_58 (fun H locs hP hD hS => ?_)
      have hP : va_P D vwCl (wX6 C a0 a1 a2 a3 a4 a5 a6 a7 a8 a9 a10 a11 a12 a13 a14 a15 o_n o_all o_made (o_own0 ||| (jshl (1 : Int64) p1)) o_own1 o_threatMany o_length o_holes o_tellings o_game o_near o_kept o_isKept o_threatOf o_threatSet o_text o_far o_back o_hole o_isWon o_won o_lasts o_power o_told) H := hP
      have hD : va_D A (wX6 C a0 a1 a2 a3 a4 a5 a6 a7 a8 a9 a10 a11 a12 a13 a14 a15 o_n o_all o_made (o_own0 ||| (jshl (1 : Int64) p1)) o_own1 o_threatMany o_length o_holes o_tellings o_game o_near o_kept o_isKept o_threatOf o_threatSet o_text o_far o_back o_hole o_isWon o_won o_lasts o_power o_told) := hD
      refine lv_goto (tgt := 76) hx hb dX6_lays_61 (by decide) ?_
      have hf := Option.some.inj hf
      subst hf
      exact rWv hc hP hD hS dX6_lays_76
  · have hf := if_t hf c1
    refine lv_aload_n hx hb dX6_lays_6 rfl (lv_at hl 0 rfl) ?_
    refine va_get (D := D) (ci := 6) (v := .ref a1) (C := RX6) (T := TX6) (N := 24) hx hb hts inX6 hown hK hP 0 rfl rfl 1 (by decide) (hts _ q_655) (fun _ h9 => h9) rfl dX6_lays_7 ?_
    refine lv_iconst (v := (0 : Int32)) hx hb dX6_lays_10 (by decide) ?_
    refine va_iald hx hb hK hP 1 0 rfl rfl (okI_in (by decide)) dX6_lays_11 ?_
    refine lv_istore_n (lv' := [(3, .int (o_game (0 : Int32).toNatClampNeg)), (0, .ref a0), (1, .int p1), (2, .int p2)]) hx hb dX6_lays_12 rfl hl (by decide) rfl (fun ls hl => ?_)
    refine lv_aload_n hx hb dX6_lays_13 rfl (lv_at hl 1 rfl) ?_
    refine lv_lconst (v := (0 : Int64)) hx hb dX6_lays_14 (by decide) ?_
    refine va_put (D := D) (ci := 6) (v := .long (0 : Int64)) (ty := .long) (C := RX6) (T := TX6) (N := 24) hx hb hts inX6 tyX6 tyX6_ok nmX6 hown hK hP hD hS 0 rfl rfl 4 (by decide) (hts _ q_658) (fun _ h9 => h9) rfl (by decide +kernel) rfl rfl (Nat.le_of_ble_eq_true rfl) dX6_lays_15 (fun H locs hP hD hS => ?_)
    have hP : va_P D vwCl (wX6 C a0 a1 a2 a3 a4 a5 a6 a7 a8 a9 a10 a11 a12 a13 a14 a15 o_n o_all o_made (0 : Int64) o_own1 o_threatMany o_length o_holes o_tellings o_game o_near o_kept o_isKept o_threatOf o_threatSet o_text o_far o_back o_hole o_isWon o_won o_lasts o_power o_told) H := hP
    have hD : va_D A (wX6 C a0 a1 a2 a3 a4 a5 a6 a7 a8 a9 a10 a11 a12 a13 a14 a15 o_n o_all o_made (0 : Int64) o_own1 o_threatMany o_length o_holes o_tellings o_game o_near o_kept o_isKept o_threatOf o_threatSet o_text o_far o_back o_hole o_isWon o_won o_lasts o_power o_told) := hD
    refine lv_aload_n hx hb dX6_lays_18 rfl (lv_at hl 1 rfl) ?_
    refine lv_lconst (v := (1 : Int64)) hx hb dX6_lays_19 (by decide) ?_
    refine lv_iload_n hx hb dX6_lays_20 rfl (lv_at hl 0 rfl) ?_
    refine lv_aload_n hx hb dX6_lays_21 rfl (lv_at hl 1 rfl) ?_
    refine va_get (D := D) (ci := 6) (v := .int o_n) (C := RX6) (T := TX6) (N := 24) hx hb hts inX6 hown hK hP 0 rfl rfl 0 (by decide) (hts _ q_654) (fun _ h9 => h9) rfl dX6_lays_22 ?_
    obtain ⟨h3, hf⟩ := nz_t hf
    refine lv_irem hx hb dX6_lays_25 h3 ?_
    refine lv_aload_n hx hb dX6_lays_26 rfl (lv_at hl 1 rfl) ?_
    refine va_get (D := D) (ci := 6) (v := .int o_n) (C := RX6) (T := TX6) (N := 24) hx hb hts inX6 hown hK hP 0 rfl rfl 0 (by decide) (hts _ q_654) (fun _ h9 => h9) rfl dX6_lays_27 ?_
    refine lv_imul hx hb dX6_lays_30 ?_
    refine lv_iload_n hx hb dX6_lays_31 rfl (lv_at hl 0 rfl) ?_
    refine lv_aload_n hx hb dX6_lays_32 rfl (lv_at hl 1 rfl) ?_
    refine va_get (D := D) (ci := 6) (v := .int o_n) (C := RX6) (T := TX6) (N := 24) hx hb hts inX6 hown hK hP 0 rfl rfl 0 (by decide) (hts _ q_654) (fun _ h9 => h9) rfl dX6_lays_33 ?_
    obtain ⟨h4, hf⟩ := nz_t hf
    refine lv_idiv hx hb dX6_lays_36 h4 ?_
    refine lv_iadd hx hb dX6_lays_37 ?_
    refine lv_lshl (v := (jshl (1 : Int64) (((jirem (o_game (0 : Int32).toNatClampNeg) o_n) * o_n) + ((o_game (0 : Int32).toNatClampNeg) / o_n)))) hx hb dX6_lays_38 rfl ?_
    refine va_put (D := D) (ci := 6) (v := .long (jshl (1 : Int64) (((jirem (o_game (0 : Int32).toNatClampNeg) o_n) * o_n) + ((o_game (0 : Int32).toNatClampNeg) / o_n)))) (ty := .long) (C := RX6) (T := TX6) (N := 24) hx hb hts inX6 tyX6 tyX6_ok nmX6 hown hK hP hD hS 0 rfl rfl 5 (by decide) (hts _ q_659) (fun _ h9 => h9) rfl (by decide +kernel) rfl rfl (Nat.le_of_ble_eq_true rfl) dX6_lays_39 (fun H locs hP hD hS => ?_)
    have hP : va_P D vwCl (wX6 C a0 a1 a2 a3 a4 a5 a6 a7 a8 a9 a10 a11 a12 a13 a14 a15 o_n o_all o_made (0 : Int64) (jshl (1 : Int64) (((jirem (o_game (0 : Int32).toNatClampNeg) o_n) * o_n) + ((o_game (0 : Int32).toNatClampNeg) / o_n))) o_threatMany o_length o_holes o_tellings o_game o_near o_kept o_isKept o_threatOf o_threatSet o_text o_far o_back o_hole o_isWon o_won o_lasts o_power o_told) H := hP
    have hD : va_D A (wX6 C a0 a1 a2 a3 a4 a5 a6 a7 a8 a9 a10 a11 a12 a13 a14 a15 o_n o_all o_made (0 : Int64) (jshl (1 : Int64) (((jirem (o_game (0 : Int32).toNatClampNeg) o_n) * o_n) + ((o_game (0 : Int32).toNatClampNeg) / o_n))) o_threatMany o_length o_holes o_tellings o_game o_near o_kept o_isKept o_threatOf o_threatSet o_text o_far o_back o_hole o_isWon o_won o_lasts o_power o_told) := hD
    refine lv_goto (tgt := 76) hx hb dX6_lays_42 (by decide) ?_
    have hf := Option.some.inj hf
    subst hf
    exact rWv hc hP hD hS dX6_lays_76
abbrev R_X6_goes : Room := { frames := 1, cells := 0, slots := 0, locals := 23 }
def m_X6_goes_c12 (o_n : Int32) (o_game : Nat → Int32) (p1 : Int32)  : Nat → Int32 → Int64 → Int64 → Option (Int64 × Int64)
  | 0, _, _, _ => none
  | n + 1, v2, o_own0, o_own1 => (if p1 ≤ v2 then some (o_own0, o_own1) else (if okI v2 64 = true then ((m_X6_lays o_n o_own0 o_own1 o_game (o_game v2.toNatClampNeg) (jirem v2 (2 : Int32))).bind fun u3 => (m_X6_goes_c12 o_n o_game p1  n (v2 + (1 : Int32)) u3.1 u3.2)) else none))
set_option maxHeartbeats 4000000 in
set_option maxRecDepth 100000 in
theorem w_X6_goes_c12 {p : Program} {l : Launch} {e : Env} {s : State} {m : MethodId} {args : Array Value} {below : List Frame} {meth : Method} {c : Code} {D : va_G} {C : Nat → ClassId} {A : Nat → Prop} {a0 : Nat} {a1 : Nat} {a2 : Nat} {a3 : Nat} {a4 : Nat} {a5 : Nat} {a6 : Nat} {a7 : Nat} {a8 : Nat} {a9 : Nat} {a10 : Nat} {a11 : Nat} {a12 : Nat} {a13 : Nat} {a14 : Nat} {a15 : Nat} {o_n : Int32} {o_all : Int32} {o_made : Int32} {o_threatMany : Int32} {o_length : Int32} {o_holes : Int32} {o_tellings : Int32} {o_game : Nat → Int32} {o_near : Nat → Int64} {o_kept : Nat → Int32} {o_isKept : Nat → Int32} {o_threatOf : Nat → Int32} {o_threatSet : Nat → Int64} {o_text : Nat → Int32} {o_far : Nat → Int32} {o_back : Nat → Int32} {o_hole : Nat → Int32} {o_isWon : Nat → Int32} {o_won : Nat → Int32} {o_lasts : Nat → Int32} {o_power : Nat → Int32} {o_told : Nat → Int32} {p1 : Int32} {o : Int64 × Int64} (hc : Cx p s m args meth c yX6_goes cX6_goes 3 none) (hK : va_K D vwCl (TY C) s) (hA : ∀ q : Nat, s.heap.size ≤ q → A q) (hO : va_P D vwCl ([] : va_W) s.heap) (hN : ∀ q ∈ ([] : va_W), ¬ A q.1) : ∀ (n : Nat), ∀ (v2 : Int32) (o_own0 : Int64) (o_own1 : Int64), m_X6_goes_c12 o_n o_game p1  n v2 o_own0 o_own1 = some o → ∀ (H : Heap) (locs : List Loc), va_P D vwCl (wX6 C a0 a1 a2 a3 a4 a5 a6 a7 a8 a9 a10 a11 a12 a13 a14 a15 o_n o_all o_made o_own0 o_own1 o_threatMany o_length o_holes o_tellings o_game o_near o_kept o_isKept o_threatOf o_threatSet o_text o_far o_back o_hole o_isWon o_won o_lasts o_power o_told) H → va_D A (wX6 C a0 a1 a2 a3 a4 a5 a6 a7 a8 a9 a10 a11 a12 a13 a14 a15 o_n o_all o_made o_own0 o_own1 o_threatMany o_length o_holes o_tellings o_game o_near o_kept o_isKept o_threatOf o_threatSet o_text o_far o_back o_hole o_isWon o_won o_lasts o_power o_told) → va_S A s.heap H locs → ∀ (ls : Array Slot), lv_has ls 3 [(0, .ref a0), (1, .int p1), (2, .int v2)] → W p l e R_X6_goes s m args below meth c H locs 0 0 (MQ below (QWv D (wX6 C a0 a1 a2 a3 a4 a5 a6 a7 a8 a9 a10 a11 a12 a13 a14 a15 o_n o_all o_made o.1 o.2 o_threatMany o_length o_holes o_tellings o_game o_near o_kept o_isKept o_threatOf o_threatSet o_text o_far o_back o_hole o_isWon o_won o_lasts o_power o_told) A) args s 0 0 A) (F0 m 12 ls []) := by
  have hx := hc.1
  have hb := hc.2.1
  have hown := hc.2.2.2.2.1
  have hts := hc.2.2.2.2.2.1
  intro n
  induction n with
  | zero =>
    intro v2 o_own0 o_own1 hf
    exact no_some hf
  | succ n ih =>
    intro v2 o_own0 o_own1 hf H locs hP hD hS ls hl
    refine lv_iload_n hx hb dX6_goes_12 rfl (lv_at hl 2 rfl) ?_
    refine lv_iload_n hx hb dX6_goes_13 rfl (lv_at hl 1 rfl) ?_
    refine lv_icmp_ge (tgt := 36) hx hb dX6_goes_14 (by decide) (fun c1 => ?_) (fun c1 => ?_)
    · have hf := if_t hf c1
      have hf := Option.some.inj hf
      subst hf
      exact rWv hc hP hD hS dX6_goes_36
    · have hf := if_f hf c1
      refine lv_aload_n hx hb dX6_goes_17 rfl (lv_at hl 0 rfl) ?_
      refine lv_aload_n hx hb dX6_goes_18 rfl (lv_at hl 0 rfl) ?_
      refine va_get (D := D) (ci := 6) (v := .ref a1) (C := RX6) (T := TX6) (N := 24) hx hb hts inX6 hown hK hP 0 rfl rfl 1 (by decide) (hts _ q_655) (fun _ h9 => h9) rfl dX6_goes_19 ?_
      refine lv_iload_n hx hb dX6_goes_22 rfl (lv_at hl 2 rfl) ?_
      obtain ⟨h2, hf⟩ := ok_t hf
      refine va_iald hx hb hK hP 1 0 rfl rfl (okI_in h2) dX6_goes_23 ?_
      refine lv_iload_n hx hb dX6_goes_24 rfl (lv_at hl 2 rfl) ?_
      refine lv_iconst (v := (2 : Int32)) hx hb dX6_goes_25 (by decide) ?_
      refine lv_irem hx hb dX6_goes_26 (by decide) ?_
      obtain ⟨u3, hu3, hf⟩ := bind_some hf
      refine wcVv (A := A) (wc := wX6 C a0 a1 a2 a3 a4 a5 a6 a7 a8 a9 a10 a11 a12 a13 a14 a15 o_n o_all o_made o_own0 o_own1 o_threatMany o_length o_holes o_tellings o_game o_near o_kept o_isKept o_threatOf o_threatSet o_text o_far o_back o_hole o_isWon o_won o_lasts o_power o_told) (w1 := wX6 C a0 a1 a2 a3 a4 a5 a6 a7 a8 a9 a10 a11 a12 a13 a14 a15 o_n o_all o_made u3.1 u3.2 o_threatMany o_length o_holes o_tellings o_game o_near o_kept o_isKept o_threatOf o_threatSet o_text o_far o_back o_hole o_isWon o_won o_lasts o_power o_told) (rc := []) (As := [.int (o_game v2.toNatClampNeg), .int (jirem v2 (2 : Int32))]) (rest := []) hc k_X6_105 (c_X6_lays l D C _ a0 a1 a2 a3 a4 a5 a6 a7 a8 a9 a10 a11 a12 a13 a14 a15 o_n o_all o_made o_own0 o_own1 o_threatMany o_length o_holes o_tellings o_game o_near o_kept o_isKept o_threatOf o_threatSet o_text o_far o_back o_hole o_isWon o_won o_lasts o_power o_told (o_game v2.toNatClampNeg) (jirem v2 (2 : Int32))  _ hu3) ⟨rfl, rfl, Nat.le_of_ble_eq_true rfl, Nat.le_of_ble_eq_true rfl⟩ hP hD hS hA hK [0, 1, 2, 3, 4, 5, 6, 7, 8, 9, 10, 11, 12, 13, 14, 15] [] rfl rfl rfl rfl (by decide) (hP.sub [] rfl) Ap_nil (q0 := 0) rfl rfl rfl hl rfl rfl (Nat.le_of_ble_eq_true rfl) ⟨Nat.zero_le _, Nat.zero_le _⟩ dX6_goes_27 (fun H locs hP hD hS => ?_)
      have hP : va_P D vwCl (wX6 C a0 a1 a2 a3 a4 a5 a6 a7 a8 a9 a10 a11 a12 a13 a14 a15 o_n o_all o_made u3.1 u3.2 o_threatMany o_length o_holes o_tellings o_game o_near o_kept o_isKept o_threatOf o_threatSet o_text o_far o_back o_hole o_isWon o_won o_lasts o_power o_told) H := hP.sub [0, 1, 2, 3, 4, 5, 6, 7, 8, 9, 10, 11, 12, 13, 14, 15] rfl
      have hD : va_D A (wX6 C a0 a1 a2 a3 a4 a5 a6 a7 a8 a9 a10 a11 a12 a13 a14 a15 o_n o_all o_made u3.1 u3.2 o_threatMany o_length o_holes o_tellings o_game o_near o_kept o_isKept o_threatOf o_threatSet o_text o_far o_back o_hole o_isWon o_won o_lasts o_power o_told) := hD.sub [0, 1, 2, 3, 4, 5, 6, 7, 8, 9, 10, 11, 12, 13, 14, 15] rfl rfl
      refine lv_iinc (v := (v2 + (1 : Int32))) (lv' := [(2, .int (v2 + (1 : Int32))), (0, .ref a0), (1, .int p1)]) hx hb dX6_goes_30 hl (k := 2) rfl rfl (by decide) rfl (fun ls hl => ?_)
      refine lv_goto (tgt := 12) hx hb dX6_goes_33 (by decide) ?_
      exact ih (v2 + (1 : Int32)) u3.1 u3.2 hf _ _ hP hD hS ls (lv_sub hl [1, 2, 0] rfl)
def m_X6_goes (o_n : Int32) (o_game : Nat → Int32) (p1 : Int32) : Option (Int64 × Int64) := (m_X6_goes_c12 o_n o_game p1 FU (0 : Int32) (0 : Int64) (0 : Int64))
set_option maxHeartbeats 4000000 in
set_option maxRecDepth 100000 in
theorem c_X6_goes (l : Launch) (D : va_G) (C : Nat → ClassId) (sz : Nat) (a0 : Nat) (a1 : Nat) (a2 : Nat) (a3 : Nat) (a4 : Nat) (a5 : Nat) (a6 : Nat) (a7 : Nat) (a8 : Nat) (a9 : Nat) (a10 : Nat) (a11 : Nat) (a12 : Nat) (a13 : Nat) (a14 : Nat) (a15 : Nat) (o_n : Int32) (o_all : Int32) (o_made : Int32) (o_own0 : Int64) (o_own1 : Int64) (o_threatMany : Int32) (o_length : Int32) (o_holes : Int32) (o_tellings : Int32) (o_game : Nat → Int32) (o_near : Nat → Int64) (o_kept : Nat → Int32) (o_isKept : Nat → Int32) (o_threatOf : Nat → Int32) (o_threatSet : Nat → Int64) (o_text : Nat → Int32) (o_far : Nat → Int32) (o_back : Nat → Int32) (o_hole : Nat → Int32) (o_isWon : Nat → Int32) (o_won : Nat → Int32) (o_lasts : Nat → Int32) (o_power : Nat → Int32) (o_told : Nat → Int32) (p1 : Int32) (o : Int64 × Int64) (hf : m_X6_goes o_n o_game p1 = some o) : Met l yX6_goes (wl yX6_goes cX6_goes 3 none) R_X6_goes (PW [.ref a0, .int p1] D C sz (wX6 C a0 a1 a2 a3 a4 a5 a6 a7 a8 a9 a10 a11 a12 a13 a14 a15 o_n o_all o_made o_own0 o_own1 o_threatMany o_length o_holes o_tellings o_game o_near o_kept o_isKept o_threatOf o_threatSet o_text o_far o_back o_hole o_isWon o_won o_lasts o_power o_told) ([] : va_W)) (QWv D (wX6 C a0 a1 a2 a3 a4 a5 a6 a7 a8 a9 a10 a11 a12 a13 a14 a15 o_n o_all o_made o.1 o.2 o_threatMany o_length o_holes o_tellings o_game o_near o_kept o_isKept o_threatOf o_threatSet o_text o_far o_back o_hole o_isWon o_won o_lasts o_power o_told) (va_A (wX6 C a0 a1 a2 a3 a4 a5 a6 a7 a8 a9 a10 a11 a12 a13 a14 a15 o_n o_all o_made o_own0 o_own1 o_threatMany o_length o_holes o_tellings o_game o_near o_kept o_isKept o_threatOf o_threatSet o_text o_far o_back o_hole o_isWon o_won o_lasts o_power o_told) sz)) 0 0 (va_A (wX6 C a0 a1 a2 a3 a4 a5 a6 a7 a8 a9 a10 a11 a12 a13 a14 a15 o_n o_all o_made o_own0 o_own1 o_threatMany o_length o_holes o_tellings o_game o_near o_kept o_isKept o_threatOf o_threatSet o_text o_far o_back o_hole o_isWon o_won o_lasts o_power o_told) sz) := by
  refine Met_ofC (by decide) ?_
  intro p e s m args below meth c hc hv
  obtain ⟨rfl, hsz, hP, hK, hD0, hO, hN0⟩ := hv
  subst hsz
  have hD := hD0.self (sz := s.heap.size)
  have hN : ∀ q ∈ ([] : va_W), ¬ va_A (wX6 C a0 a1 a2 a3 a4 a5 a6 a7 a8 a9 a10 a11 a12 a13 a14 a15 o_n o_all o_made o_own0 o_own1 o_threatMany o_length o_holes o_tellings o_game o_near o_kept o_isKept o_threatOf o_threatSet o_text o_far o_back o_hole o_isWon o_won o_lasts o_power o_told) s.heap.size q.1 := hN0
  generalize hAe : va_A (wX6 C a0 a1 a2 a3 a4 a5 a6 a7 a8 a9 a10 a11 a12 a13 a14 a15 o_n o_all o_made o_own0 o_own1 o_threatMany o_length o_holes o_tellings o_game o_near o_kept o_isKept o_threatOf o_threatSet o_text o_far o_back o_hole o_isWon o_won o_lasts o_power o_told) s.heap.size = A at hD hN ⊢
  have hA : ∀ q : Nat, s.heap.size ≤ q → A q := fun q h => by rw [← hAe]; exact Or.inr h
  have hS : va_S A s.heap s.heap [] := va_S.rf
  have hx := hc.1
  have hb := hc.2.1
  have hown := hc.2.2.2.2.1
  have hts := hc.2.2.2.2.2.1
  refine en_F rfl (fun ls hl => ?_)
  have hl : lv_has ls 3 [(0, .ref a0), (1, .int p1)] := hl
  refine lv_aload_n hx hb dX6_goes_0 rfl (lv_at hl 0 rfl) ?_
  refine lv_lconst (v := (0 : Int64)) hx hb dX6_goes_1 (by decide) ?_
  refine va_put (D := D) (ci := 6) (v := .long (0 : Int64)) (ty := .long) (C := RX6) (T := TX6) (N := 24) hx hb hts inX6 tyX6 tyX6_ok nmX6 hown hK hP hD hS 0 rfl rfl 4 (by decide) (hts _ q_658) (fun _ h9 => h9) rfl (by decide +kernel) rfl rfl (Nat.le_of_ble_eq_true rfl) dX6_goes_2 (fun H locs hP hD hS => ?_)
  have hP : va_P D vwCl (wX6 C a0 a1 a2 a3 a4 a5 a6 a7 a8 a9 a10 a11 a12 a13 a14 a15 o_n o_all o_made (0 : Int64) o_own1 o_threatMany o_length o_holes o_tellings o_game o_near o_kept o_isKept o_threatOf o_threatSet o_text o_far o_back o_hole o_isWon o_won o_lasts o_power o_told) H := hP
  have hD : va_D A (wX6 C a0 a1 a2 a3 a4 a5 a6 a7 a8 a9 a10 a11 a12 a13 a14 a15 o_n o_all o_made (0 : Int64) o_own1 o_threatMany o_length o_holes o_tellings o_game o_near o_kept o_isKept o_threatOf o_threatSet o_text o_far o_back o_hole o_isWon o_won o_lasts o_power o_told) := hD
  refine lv_aload_n hx hb dX6_goes_5 rfl (lv_at hl 0 rfl) ?_
  refine lv_lconst (v := (0 : Int64)) hx hb dX6_goes_6 (by decide) ?_
  refine va_put (D := D) (ci := 6) (v := .long (0 : Int64)) (ty := .long) (C := RX6) (T := TX6) (N := 24) hx hb hts inX6 tyX6 tyX6_ok nmX6 hown hK hP hD hS 0 rfl rfl 5 (by decide) (hts _ q_659) (fun _ h9 => h9) rfl (by decide +kernel) rfl rfl (Nat.le_of_ble_eq_true rfl) dX6_goes_7 (fun H locs hP hD hS => ?_)
  have hP : va_P D vwCl (wX6 C a0 a1 a2 a3 a4 a5 a6 a7 a8 a9 a10 a11 a12 a13 a14 a15 o_n o_all o_made (0 : Int64) (0 : Int64) o_threatMany o_length o_holes o_tellings o_game o_near o_kept o_isKept o_threatOf o_threatSet o_text o_far o_back o_hole o_isWon o_won o_lasts o_power o_told) H := hP
  have hD : va_D A (wX6 C a0 a1 a2 a3 a4 a5 a6 a7 a8 a9 a10 a11 a12 a13 a14 a15 o_n o_all o_made (0 : Int64) (0 : Int64) o_threatMany o_length o_holes o_tellings o_game o_near o_kept o_isKept o_threatOf o_threatSet o_text o_far o_back o_hole o_isWon o_won o_lasts o_power o_told) := hD
  refine lv_iconst (v := (0 : Int32)) hx hb dX6_goes_10 (by decide) ?_
  refine lv_istore_n (lv' := [(2, .int (0 : Int32)), (0, .ref a0), (1, .int p1)]) hx hb dX6_goes_11 rfl hl (by decide) rfl (fun ls hl => ?_)
  exact w_X6_goes_c12 hc hK hA hO hN  FU (0 : Int32) (0 : Int64) (0 : Int64) hf _ _ hP hD hS ls (lv_sub hl [1, 2, 0] rfl)
abbrev R_X6_adds : Room := { frames := 2, cells := 0, slots := 0, locals := 45 }
def m_X6_adds (o_n : Int32) (o_made : Int32) (o_game : Nat → Int32) (p1 : Int32) : Option (Int32 × Int32 × Int64 × Int64 × (Nat → Int32)) := (if okI o_made 64 = true then ((m_X6_goes o_n (upd o_game o_made.toNatClampNeg p1) (o_made + (1 : Int32))).bind fun u2 => some ((o_made + (1 : Int32)), (o_made + (1 : Int32)), u2.1, u2.2, (upd o_game o_made.toNatClampNeg p1))) else none)
set_option maxHeartbeats 4000000 in
set_option maxRecDepth 100000 in
theorem c_X6_adds (l : Launch) (D : va_G) (C : Nat → ClassId) (sz : Nat) (a0 : Nat) (a1 : Nat) (a2 : Nat) (a3 : Nat) (a4 : Nat) (a5 : Nat) (a6 : Nat) (a7 : Nat) (a8 : Nat) (a9 : Nat) (a10 : Nat) (a11 : Nat) (a12 : Nat) (a13 : Nat) (a14 : Nat) (a15 : Nat) (o_n : Int32) (o_all : Int32) (o_made : Int32) (o_own0 : Int64) (o_own1 : Int64) (o_threatMany : Int32) (o_length : Int32) (o_holes : Int32) (o_tellings : Int32) (o_game : Nat → Int32) (o_near : Nat → Int64) (o_kept : Nat → Int32) (o_isKept : Nat → Int32) (o_threatOf : Nat → Int32) (o_threatSet : Nat → Int64) (o_text : Nat → Int32) (o_far : Nat → Int32) (o_back : Nat → Int32) (o_hole : Nat → Int32) (o_isWon : Nat → Int32) (o_won : Nat → Int32) (o_lasts : Nat → Int32) (o_power : Nat → Int32) (o_told : Nat → Int32) (p1 : Int32) (o : Int32 × Int32 × Int64 × Int64 × (Nat → Int32)) (hf : m_X6_adds o_n o_made o_game p1 = some o) : Met l yX6_adds (wl yX6_adds cX6_adds 2 none) R_X6_adds (PW [.ref a0, .int p1] D C sz (wX6 C a0 a1 a2 a3 a4 a5 a6 a7 a8 a9 a10 a11 a12 a13 a14 a15 o_n o_all o_made o_own0 o_own1 o_threatMany o_length o_holes o_tellings o_game o_near o_kept o_isKept o_threatOf o_threatSet o_text o_far o_back o_hole o_isWon o_won o_lasts o_power o_told) ([] : va_W)) (QWv D (wX6 C a0 a1 a2 a3 a4 a5 a6 a7 a8 a9 a10 a11 a12 a13 a14 a15 o_n o.1 o.2.1 o.2.2.1 o.2.2.2.1 o_threatMany o_length o_holes o_tellings o.2.2.2.2 o_near o_kept o_isKept o_threatOf o_threatSet o_text o_far o_back o_hole o_isWon o_won o_lasts o_power o_told) (va_A (wX6 C a0 a1 a2 a3 a4 a5 a6 a7 a8 a9 a10 a11 a12 a13 a14 a15 o_n o_all o_made o_own0 o_own1 o_threatMany o_length o_holes o_tellings o_game o_near o_kept o_isKept o_threatOf o_threatSet o_text o_far o_back o_hole o_isWon o_won o_lasts o_power o_told) sz)) 0 0 (va_A (wX6 C a0 a1 a2 a3 a4 a5 a6 a7 a8 a9 a10 a11 a12 a13 a14 a15 o_n o_all o_made o_own0 o_own1 o_threatMany o_length o_holes o_tellings o_game o_near o_kept o_isKept o_threatOf o_threatSet o_text o_far o_back o_hole o_isWon o_won o_lasts o_power o_told) sz) := by
  refine Met_ofC (by decide) ?_
  intro p e s m args below meth c hc hv
  obtain ⟨rfl, hsz, hP, hK, hD0, hO, hN0⟩ := hv
  subst hsz
  have hD := hD0.self (sz := s.heap.size)
  have hN : ∀ q ∈ ([] : va_W), ¬ va_A (wX6 C a0 a1 a2 a3 a4 a5 a6 a7 a8 a9 a10 a11 a12 a13 a14 a15 o_n o_all o_made o_own0 o_own1 o_threatMany o_length o_holes o_tellings o_game o_near o_kept o_isKept o_threatOf o_threatSet o_text o_far o_back o_hole o_isWon o_won o_lasts o_power o_told) s.heap.size q.1 := hN0
  generalize hAe : va_A (wX6 C a0 a1 a2 a3 a4 a5 a6 a7 a8 a9 a10 a11 a12 a13 a14 a15 o_n o_all o_made o_own0 o_own1 o_threatMany o_length o_holes o_tellings o_game o_near o_kept o_isKept o_threatOf o_threatSet o_text o_far o_back o_hole o_isWon o_won o_lasts o_power o_told) s.heap.size = A at hD hN ⊢
  have hA : ∀ q : Nat, s.heap.size ≤ q → A q := fun q h => by rw [← hAe]; exact Or.inr h
  have hS : va_S A s.heap s.heap [] := va_S.rf
  have hx := hc.1
  have hb := hc.2.1
  have hown := hc.2.2.2.2.1
  have hts := hc.2.2.2.2.2.1
  refine en_F rfl (fun ls hl => ?_)
  have hl : lv_has ls 2 [(0, .ref a0), (1, .int p1)] := hl
  refine lv_aload_n hx hb dX6_adds_0 rfl (lv_at hl 0 rfl) ?_
  refine va_get (D := D) (ci := 6) (v := .ref a1) (C := RX6) (T := TX6) (N := 24) hx hb hts inX6 hown hK hP 0 rfl rfl 1 (by decide) (hts _ q_655) (fun _ h9 => h9) rfl dX6_adds_1 ?_
  refine lv_aload_n hx hb dX6_adds_4 rfl (lv_at hl 0 rfl) ?_
  refine va_get (D := D) (ci := 6) (v := .int o_made) (C := RX6) (T := TX6) (N := 24) hx hb hts inX6 hown hK hP 0 rfl rfl 3 (by decide) (hts _ q_657) (fun _ h9 => h9) rfl dX6_adds_5 ?_
  refine lv_iload_n hx hb dX6_adds_8 rfl (lv_at hl 1 rfl) ?_
  obtain ⟨h1, hf⟩ := ok_t hf
  refine va_iast hx hb hK hP hD hS 1 0 rfl rfl (okI_in h1) dX6_adds_9 (fun H locs hP hD hS => ?_)
  have hP : va_P D vwCl (wX6 C a0 a1 a2 a3 a4 a5 a6 a7 a8 a9 a10 a11 a12 a13 a14 a15 o_n o_all o_made o_own0 o_own1 o_threatMany o_length o_holes o_tellings (upd o_game o_made.toNatClampNeg p1) o_near o_kept o_isKept o_threatOf o_threatSet o_text o_far o_back o_hole o_isWon o_won o_lasts o_power o_told) H := hP
  have hD : va_D A (wX6 C a0 a1 a2 a3 a4 a5 a6 a7 a8 a9 a10 a11 a12 a13 a14 a15 o_n o_all o_made o_own0 o_own1 o_threatMany o_length o_holes o_tellings (upd o_game o_made.toNatClampNeg p1) o_near o_kept o_isKept o_threatOf o_threatSet o_text o_far o_back o_hole o_isWon o_won o_lasts o_power o_told) := hD
  refine lv_aload_n hx hb dX6_adds_10 rfl (lv_at hl 0 rfl) ?_
  refine lv_dup hx hb dX6_adds_11 rfl ?_
  refine va_get (D := D) (ci := 6) (v := .int o_made) (C := RX6) (T := TX6) (N := 24) hx hb hts inX6 hown hK hP 0 rfl rfl 3 (by decide) (hts _ q_657) (fun _ h9 => h9) rfl dX6_adds_12 ?_
  refine lv_iconst (v := (1 : Int32)) hx hb dX6_adds_15 (by decide) ?_
  refine lv_iadd hx hb dX6_adds_16 ?_
  refine va_put (D := D) (ci := 6) (v := .int (o_made + (1 : Int32))) (ty := .int) (C := RX6) (T := TX6) (N := 24) hx hb hts inX6 tyX6 tyX6_ok nmX6 hown hK hP hD hS 0 rfl rfl 3 (by decide) (hts _ q_657) (fun _ h9 => h9) rfl (by decide +kernel) rfl rfl (Nat.le_of_ble_eq_true rfl) dX6_adds_17 (fun H locs hP hD hS => ?_)
  have hP : va_P D vwCl (wX6 C a0 a1 a2 a3 a4 a5 a6 a7 a8 a9 a10 a11 a12 a13 a14 a15 o_n o_all (o_made + (1 : Int32)) o_own0 o_own1 o_threatMany o_length o_holes o_tellings (upd o_game o_made.toNatClampNeg p1) o_near o_kept o_isKept o_threatOf o_threatSet o_text o_far o_back o_hole o_isWon o_won o_lasts o_power o_told) H := hP
  have hD : va_D A (wX6 C a0 a1 a2 a3 a4 a5 a6 a7 a8 a9 a10 a11 a12 a13 a14 a15 o_n o_all (o_made + (1 : Int32)) o_own0 o_own1 o_threatMany o_length o_holes o_tellings (upd o_game o_made.toNatClampNeg p1) o_near o_kept o_isKept o_threatOf o_threatSet o_text o_far o_back o_hole o_isWon o_won o_lasts o_power o_told) := hD
  refine lv_aload_n hx hb dX6_adds_20 rfl (lv_at hl 0 rfl) ?_
  refine lv_aload_n hx hb dX6_adds_21 rfl (lv_at hl 0 rfl) ?_
  refine va_get (D := D) (ci := 6) (v := .int (o_made + (1 : Int32))) (C := RX6) (T := TX6) (N := 24) hx hb hts inX6 hown hK hP 0 rfl rfl 3 (by decide) (hts _ q_657) (fun _ h9 => h9) rfl dX6_adds_22 ?_
  refine va_put (D := D) (ci := 6) (v := .int (o_made + (1 : Int32))) (ty := .int) (C := RX6) (T := TX6) (N := 24) hx hb hts inX6 tyX6 tyX6_ok nmX6 hown hK hP hD hS 0 rfl rfl 2 (by decide) (hts _ q_656) (fun _ h9 => h9) rfl (by decide +kernel) rfl rfl (Nat.le_of_ble_eq_true rfl) dX6_adds_25 (fun H locs hP hD hS => ?_)
  have hP : va_P D vwCl (wX6 C a0 a1 a2 a3 a4 a5 a6 a7 a8 a9 a10 a11 a12 a13 a14 a15 o_n (o_made + (1 : Int32)) (o_made + (1 : Int32)) o_own0 o_own1 o_threatMany o_length o_holes o_tellings (upd o_game o_made.toNatClampNeg p1) o_near o_kept o_isKept o_threatOf o_threatSet o_text o_far o_back o_hole o_isWon o_won o_lasts o_power o_told) H := hP
  have hD : va_D A (wX6 C a0 a1 a2 a3 a4 a5 a6 a7 a8 a9 a10 a11 a12 a13 a14 a15 o_n (o_made + (1 : Int32)) (o_made + (1 : Int32)) o_own0 o_own1 o_threatMany o_length o_holes o_tellings (upd o_game o_made.toNatClampNeg p1) o_near o_kept o_isKept o_threatOf o_threatSet o_text o_far o_back o_hole o_isWon o_won o_lasts o_power o_told) := hD
  refine lv_aload_n hx hb dX6_adds_28 rfl (lv_at hl 0 rfl) ?_
  refine lv_aload_n hx hb dX6_adds_29 rfl (lv_at hl 0 rfl) ?_
  refine va_get (D := D) (ci := 6) (v := .int (o_made + (1 : Int32))) (C := RX6) (T := TX6) (N := 24) hx hb hts inX6 hown hK hP 0 rfl rfl 3 (by decide) (hts _ q_657) (fun _ h9 => h9) rfl dX6_adds_30 ?_
  obtain ⟨u2, hu2, hf⟩ := bind_some hf
  refine wcVv (A := A) (wc := wX6 C a0 a1 a2 a3 a4 a5 a6 a7 a8 a9 a10 a11 a12 a13 a14 a15 o_n (o_made + (1 : Int32)) (o_made + (1 : Int32)) o_own0 o_own1 o_threatMany o_length o_holes o_tellings (upd o_game o_made.toNatClampNeg p1) o_near o_kept o_isKept o_threatOf o_threatSet o_text o_far o_back o_hole o_isWon o_won o_lasts o_power o_told) (w1 := wX6 C a0 a1 a2 a3 a4 a5 a6 a7 a8 a9 a10 a11 a12 a13 a14 a15 o_n (o_made + (1 : Int32)) (o_made + (1 : Int32)) u2.1 u2.2 o_threatMany o_length o_holes o_tellings (upd o_game o_made.toNatClampNeg p1) o_near o_kept o_isKept o_threatOf o_threatSet o_text o_far o_back o_hole o_isWon o_won o_lasts o_power o_told) (rc := []) (As := [.int (o_made + (1 : Int32))]) (rest := []) hc k_X6_115 (c_X6_goes l D C _ a0 a1 a2 a3 a4 a5 a6 a7 a8 a9 a10 a11 a12 a13 a14 a15 o_n (o_made + (1 : Int32)) (o_made + (1 : Int32)) o_own0 o_own1 o_threatMany o_length o_holes o_tellings (upd o_game o_made.toNatClampNeg p1) o_near o_kept o_isKept o_threatOf o_threatSet o_text o_far o_back o_hole o_isWon o_won o_lasts o_power o_told (o_made + (1 : Int32))  _ hu2) ⟨rfl, rfl, Nat.le_of_ble_eq_true rfl, Nat.le_of_ble_eq_true rfl⟩ hP hD hS hA hK [0, 1, 2, 3, 4, 5, 6, 7, 8, 9, 10, 11, 12, 13, 14, 15] [] rfl rfl rfl rfl (by decide) (hP.sub [] rfl) Ap_nil (q0 := 0) rfl rfl rfl hl rfl rfl (Nat.le_of_ble_eq_true rfl) ⟨Nat.zero_le _, Nat.zero_le _⟩ dX6_adds_33 (fun H locs hP hD hS => ?_)
  have hP : va_P D vwCl (wX6 C a0 a1 a2 a3 a4 a5 a6 a7 a8 a9 a10 a11 a12 a13 a14 a15 o_n (o_made + (1 : Int32)) (o_made + (1 : Int32)) u2.1 u2.2 o_threatMany o_length o_holes o_tellings (upd o_game o_made.toNatClampNeg p1) o_near o_kept o_isKept o_threatOf o_threatSet o_text o_far o_back o_hole o_isWon o_won o_lasts o_power o_told) H := hP.sub [0, 1, 2, 3, 4, 5, 6, 7, 8, 9, 10, 11, 12, 13, 14, 15] rfl
  have hD : va_D A (wX6 C a0 a1 a2 a3 a4 a5 a6 a7 a8 a9 a10 a11 a12 a13 a14 a15 o_n (o_made + (1 : Int32)) (o_made + (1 : Int32)) u2.1 u2.2 o_threatMany o_length o_holes o_tellings (upd o_game o_made.toNatClampNeg p1) o_near o_kept o_isKept o_threatOf o_threatSet o_text o_far o_back o_hole o_isWon o_won o_lasts o_power o_told) := hD.sub [0, 1, 2, 3, 4, 5, 6, 7, 8, 9, 10, 11, 12, 13, 14, 15] rfl rfl
  have hf := Option.some.inj hf
  subst hf
  exact rWv hc hP hD hS dX6_adds_36
abbrev R_X6_begin : Room := { frames := 3, cells := 0, slots := 0, locals := 68 }
def m_X6_begin (o_n : Int32) (o_all : Int32) (o_made : Int32) (o_own0 : Int64) (o_own1 : Int64) (o_threatMany : Int32) (o_game : Nat → Int32) (o_near : Nat → Int64) (p1 : Int32) : Option (Int32 × Int32 × Int32 × Int32 × Int64 × Int64 × Int32 × (Nat → Int64)) := (if (m_X6_in p1 (2 : Int32) (7 : Int32)) = 0 then some ((-12 : Int32), o_n, o_all, o_made, o_own0, o_own1, o_threatMany, o_near) else ((m_X6_shapes p1 o_near).bind fun u2 => ((m_X6_goes p1 o_game (0 : Int32)).bind fun u3 => some (o_n, p1, (0 : Int32), (0 : Int32), u3.1, u3.2, (0 : Int32), u2))))
set_option maxHeartbeats 4000000 in
set_option maxRecDepth 100000 in
theorem c_X6_begin (l : Launch) (D : va_G) (C : Nat → ClassId) (sz : Nat) (a0 : Nat) (a1 : Nat) (a2 : Nat) (a3 : Nat) (a4 : Nat) (a5 : Nat) (a6 : Nat) (a7 : Nat) (a8 : Nat) (a9 : Nat) (a10 : Nat) (a11 : Nat) (a12 : Nat) (a13 : Nat) (a14 : Nat) (a15 : Nat) (o_n : Int32) (o_all : Int32) (o_made : Int32) (o_own0 : Int64) (o_own1 : Int64) (o_threatMany : Int32) (o_length : Int32) (o_holes : Int32) (o_tellings : Int32) (o_game : Nat → Int32) (o_near : Nat → Int64) (o_kept : Nat → Int32) (o_isKept : Nat → Int32) (o_threatOf : Nat → Int32) (o_threatSet : Nat → Int64) (o_text : Nat → Int32) (o_far : Nat → Int32) (o_back : Nat → Int32) (o_hole : Nat → Int32) (o_isWon : Nat → Int32) (o_won : Nat → Int32) (o_lasts : Nat → Int32) (o_power : Nat → Int32) (o_told : Nat → Int32) (p1 : Int32) (o : Int32 × Int32 × Int32 × Int32 × Int64 × Int64 × Int32 × (Nat → Int64)) (hf : m_X6_begin o_n o_all o_made o_own0 o_own1 o_threatMany o_game o_near p1 = some o) : Met l yX6_begin (wl yX6_begin cX6_begin 3 (some .int)) R_X6_begin (PW [.ref a0, .int p1] D C sz (wX6 C a0 a1 a2 a3 a4 a5 a6 a7 a8 a9 a10 a11 a12 a13 a14 a15 o_n o_all o_made o_own0 o_own1 o_threatMany o_length o_holes o_tellings o_game o_near o_kept o_isKept o_threatOf o_threatSet o_text o_far o_back o_hole o_isWon o_won o_lasts o_power o_told) ([] : va_W)) (QWi D o.1 (wX6 C a0 a1 a2 a3 a4 a5 a6 a7 a8 a9 a10 a11 a12 a13 a14 a15 o.2.1 o.2.2.1 o.2.2.2.1 o.2.2.2.2.1 o.2.2.2.2.2.1 o.2.2.2.2.2.2.1 o_length o_holes o_tellings o_game o.2.2.2.2.2.2.2 o_kept o_isKept o_threatOf o_threatSet o_text o_far o_back o_hole o_isWon o_won o_lasts o_power o_told) (va_A (wX6 C a0 a1 a2 a3 a4 a5 a6 a7 a8 a9 a10 a11 a12 a13 a14 a15 o_n o_all o_made o_own0 o_own1 o_threatMany o_length o_holes o_tellings o_game o_near o_kept o_isKept o_threatOf o_threatSet o_text o_far o_back o_hole o_isWon o_won o_lasts o_power o_told) sz)) 0 0 (va_A (wX6 C a0 a1 a2 a3 a4 a5 a6 a7 a8 a9 a10 a11 a12 a13 a14 a15 o_n o_all o_made o_own0 o_own1 o_threatMany o_length o_holes o_tellings o_game o_near o_kept o_isKept o_threatOf o_threatSet o_text o_far o_back o_hole o_isWon o_won o_lasts o_power o_told) sz) := by
  refine Met_ofC (by decide) ?_
  intro p e s m args below meth c hc hv
  obtain ⟨rfl, hsz, hP, hK, hD0, hO, hN0⟩ := hv
  subst hsz
  have hD := hD0.self (sz := s.heap.size)
  have hN : ∀ q ∈ ([] : va_W), ¬ va_A (wX6 C a0 a1 a2 a3 a4 a5 a6 a7 a8 a9 a10 a11 a12 a13 a14 a15 o_n o_all o_made o_own0 o_own1 o_threatMany o_length o_holes o_tellings o_game o_near o_kept o_isKept o_threatOf o_threatSet o_text o_far o_back o_hole o_isWon o_won o_lasts o_power o_told) s.heap.size q.1 := hN0
  generalize hAe : va_A (wX6 C a0 a1 a2 a3 a4 a5 a6 a7 a8 a9 a10 a11 a12 a13 a14 a15 o_n o_all o_made o_own0 o_own1 o_threatMany o_length o_holes o_tellings o_game o_near o_kept o_isKept o_threatOf o_threatSet o_text o_far o_back o_hole o_isWon o_won o_lasts o_power o_told) s.heap.size = A at hD hN ⊢
  have hA : ∀ q : Nat, s.heap.size ≤ q → A q := fun q h => by rw [← hAe]; exact Or.inr h
  have hS : va_S A s.heap s.heap [] := va_S.rf
  have hx := hc.1
  have hb := hc.2.1
  have hown := hc.2.2.2.2.1
  have hts := hc.2.2.2.2.2.1
  refine en_F rfl (fun ls hl => ?_)
  have hl : lv_has ls 3 [(0, .ref a0), (1, .int p1)] := hl
  refine lv_iload_n hx hb dX6_begin_0 rfl (lv_at hl 1 rfl) ?_
  refine lv_iconst (v := (2 : Int32)) hx hb dX6_begin_1 (by decide) ?_
  refine lv_bipush (v := (7 : Int32)) hx hb dX6_begin_2 (by decide) ?_
  refine rcSi (As := [.int p1, .int (2 : Int32), .int (7 : Int32)]) (rest := []) hc k_X6_64 (c_X6_in l D C p1 (2 : Int32) (7 : Int32)  _ rfl) ⟨rfl, rfl, Nat.le_of_ble_eq_true rfl, Nat.le_of_ble_eq_true rfl⟩ (hP.sub [] rfl) hK hl rfl rfl (Nat.le_of_ble_eq_true rfl) ⟨Nat.zero_le _, Nat.zero_le _⟩ dX6_begin_4 ?_
  refine lv_if_ne (tgt := 13) hx hb dX6_begin_7 (by decide) (fun c1 => ?_) (fun c1 => ?_)
  · have hf := if_f hf c1
    refine lv_aload_n hx hb dX6_begin_13 rfl (lv_at hl 0 rfl) ?_
    refine va_get (D := D) (ci := 6) (v := .int o_n) (C := RX6) (T := TX6) (N := 24) hx hb hts inX6 hown hK hP 0 rfl rfl 0 (by decide) (hts _ q_654) (fun _ h9 => h9) rfl dX6_begin_14 ?_
    refine lv_istore_n (lv' := [(2, .int o_n), (0, .ref a0), (1, .int p1)]) hx hb dX6_begin_17 rfl hl (by decide) rfl (fun ls hl => ?_)
    refine lv_aload_n hx hb dX6_begin_18 rfl (lv_at hl 1 rfl) ?_
    refine lv_iload_n hx hb dX6_begin_19 rfl (lv_at hl 2 rfl) ?_
    refine va_put (D := D) (ci := 6) (v := .int p1) (ty := .int) (C := RX6) (T := TX6) (N := 24) hx hb hts inX6 tyX6 tyX6_ok nmX6 hown hK hP hD hS 0 rfl rfl 0 (by decide) (hts _ q_654) (fun _ h9 => h9) rfl (by decide +kernel) rfl rfl (Nat.le_of_ble_eq_true rfl) dX6_begin_20 (fun H locs hP hD hS => ?_)
    have hP : va_P D vwCl (wX6 C a0 a1 a2 a3 a4 a5 a6 a7 a8 a9 a10 a11 a12 a13 a14 a15 p1 o_all o_made o_own0 o_own1 o_threatMany o_length o_holes o_tellings o_game o_near o_kept o_isKept o_threatOf o_threatSet o_text o_far o_back o_hole o_isWon o_won o_lasts o_power o_told) H := hP
    have hD : va_D A (wX6 C a0 a1 a2 a3 a4 a5 a6 a7 a8 a9 a10 a11 a12 a13 a14 a15 p1 o_all o_made o_own0 o_own1 o_threatMany o_length o_holes o_tellings o_game o_near o_kept o_isKept o_threatOf o_threatSet o_text o_far o_back o_hole o_isWon o_won o_lasts o_power o_told) := hD
    refine lv_aload_n hx hb dX6_begin_23 rfl (lv_at hl 1 rfl) ?_
    obtain ⟨u2, hu2, hf⟩ := bind_some hf
    refine wcVv (A := A) (wc := wX6 C a0 a1 a2 a3 a4 a5 a6 a7 a8 a9 a10 a11 a12 a13 a14 a15 p1 o_all o_made o_own0 o_own1 o_threatMany o_length o_holes o_tellings o_game o_near o_kept o_isKept o_threatOf o_threatSet o_text o_far o_back o_hole o_isWon o_won o_lasts o_power o_told) (w1 := wX6 C a0 a1 a2 a3 a4 a5 a6 a7 a8 a9 a10 a11 a12 a13 a14 a15 p1 o_all o_made o_own0 o_own1 o_threatMany o_length o_holes o_tellings o_game u2 o_kept o_isKept o_threatOf o_threatSet o_text o_far o_back o_hole o_isWon o_won o_lasts o_power o_told) (rc := []) (As := []) (rest := []) hc k_X6_61 (c_X6_shapes l D C _ a0 a1 a2 a3 a4 a5 a6 a7 a8 a9 a10 a11 a12 a13 a14 a15 p1 o_all o_made o_own0 o_own1 o_threatMany o_length o_holes o_tellings o_game o_near o_kept o_isKept o_threatOf o_threatSet o_text o_far o_back o_hole o_isWon o_won o_lasts o_power o_told  _ hu2) ⟨rfl, rfl, Nat.le_of_ble_eq_true rfl, Nat.le_of_ble_eq_true rfl⟩ hP hD hS hA hK [0, 1, 2, 3, 4, 5, 6, 7, 8, 9, 10, 11, 12, 13, 14, 15] [] rfl rfl rfl rfl (by decide) (hP.sub [] rfl) Ap_nil (q0 := 0) rfl rfl rfl hl rfl rfl (Nat.le_of_ble_eq_true rfl) ⟨Nat.zero_le _, Nat.zero_le _⟩ dX6_begin_24 (fun H locs hP hD hS => ?_)
    have hP : va_P D vwCl (wX6 C a0 a1 a2 a3 a4 a5 a6 a7 a8 a9 a10 a11 a12 a13 a14 a15 p1 o_all o_made o_own0 o_own1 o_threatMany o_length o_holes o_tellings o_game u2 o_kept o_isKept o_threatOf o_threatSet o_text o_far o_back o_hole o_isWon o_won o_lasts o_power o_told) H := hP.sub [0, 1, 2, 3, 4, 5, 6, 7, 8, 9, 10, 11, 12, 13, 14, 15] rfl
    have hD : va_D A (wX6 C a0 a1 a2 a3 a4 a5 a6 a7 a8 a9 a10 a11 a12 a13 a14 a15 p1 o_all o_made o_own0 o_own1 o_threatMany o_length o_holes o_tellings o_game u2 o_kept o_isKept o_threatOf o_threatSet o_text o_far o_back o_hole o_isWon o_won o_lasts o_power o_told) := hD.sub [0, 1, 2, 3, 4, 5, 6, 7, 8, 9, 10, 11, 12, 13, 14, 15] rfl rfl
    refine lv_aload_n hx hb dX6_begin_27 rfl (lv_at hl 1 rfl) ?_
    refine lv_iconst (v := (0 : Int32)) hx hb dX6_begin_28 (by decide) ?_
    refine va_put (D := D) (ci := 6) (v := .int (0 : Int32)) (ty := .int) (C := RX6) (T := TX6) (N := 24) hx hb hts inX6 tyX6 tyX6_ok nmX6 hown hK hP hD hS 0 rfl rfl 3 (by decide) (hts _ q_657) (fun _ h9 => h9) rfl (by decide +kernel) rfl rfl (Nat.le_of_ble_eq_true rfl) dX6_begin_29 (fun H locs hP hD hS => ?_)
    have hP : va_P D vwCl (wX6 C a0 a1 a2 a3 a4 a5 a6 a7 a8 a9 a10 a11 a12 a13 a14 a15 p1 o_all (0 : Int32) o_own0 o_own1 o_threatMany o_length o_holes o_tellings o_game u2 o_kept o_isKept o_threatOf o_threatSet o_text o_far o_back o_hole o_isWon o_won o_lasts o_power o_told) H := hP
    have hD : va_D A (wX6 C a0 a1 a2 a3 a4 a5 a6 a7 a8 a9 a10 a11 a12 a13 a14 a15 p1 o_all (0 : Int32) o_own0 o_own1 o_threatMany o_length o_holes o_tellings o_game u2 o_kept o_isKept o_threatOf o_threatSet o_text o_far o_back o_hole o_isWon o_won o_lasts o_power o_told) := hD
    refine lv_aload_n hx hb dX6_begin_32 rfl (lv_at hl 1 rfl) ?_
    refine lv_iconst (v := (0 : Int32)) hx hb dX6_begin_33 (by decide) ?_
    refine va_put (D := D) (ci := 6) (v := .int (0 : Int32)) (ty := .int) (C := RX6) (T := TX6) (N := 24) hx hb hts inX6 tyX6 tyX6_ok nmX6 hown hK hP hD hS 0 rfl rfl 2 (by decide) (hts _ q_656) (fun _ h9 => h9) rfl (by decide +kernel) rfl rfl (Nat.le_of_ble_eq_true rfl) dX6_begin_34 (fun H locs hP hD hS => ?_)
    have hP : va_P D vwCl (wX6 C a0 a1 a2 a3 a4 a5 a6 a7 a8 a9 a10 a11 a12 a13 a14 a15 p1 (0 : Int32) (0 : Int32) o_own0 o_own1 o_threatMany o_length o_holes o_tellings o_game u2 o_kept o_isKept o_threatOf o_threatSet o_text o_far o_back o_hole o_isWon o_won o_lasts o_power o_told) H := hP
    have hD : va_D A (wX6 C a0 a1 a2 a3 a4 a5 a6 a7 a8 a9 a10 a11 a12 a13 a14 a15 p1 (0 : Int32) (0 : Int32) o_own0 o_own1 o_threatMany o_length o_holes o_tellings o_game u2 o_kept o_isKept o_threatOf o_threatSet o_text o_far o_back o_hole o_isWon o_won o_lasts o_power o_told) := hD
    refine lv_aload_n hx hb dX6_begin_37 rfl (lv_at hl 1 rfl) ?_
    refine lv_iconst (v := (0 : Int32)) hx hb dX6_begin_38 (by decide) ?_
    obtain ⟨u3, hu3, hf⟩ := bind_some hf
    refine wcVv (A := A) (wc := wX6 C a0 a1 a2 a3 a4 a5 a6 a7 a8 a9 a10 a11 a12 a13 a14 a15 p1 (0 : Int32) (0 : Int32) o_own0 o_own1 o_threatMany o_length o_holes o_tellings o_game u2 o_kept o_isKept o_threatOf o_threatSet o_text o_far o_back o_hole o_isWon o_won o_lasts o_power o_told) (w1 := wX6 C a0 a1 a2 a3 a4 a5 a6 a7 a8 a9 a10 a11 a12 a13 a14 a15 p1 (0 : Int32) (0 : Int32) u3.1 u3.2 o_threatMany o_length o_holes o_tellings o_game u2 o_kept o_isKept o_threatOf o_threatSet o_text o_far o_back o_hole o_isWon o_won o_lasts o_power o_told) (rc := []) (As := [.int (0 : Int32)]) (rest := []) hc k_X6_115 (c_X6_goes l D C _ a0 a1 a2 a3 a4 a5 a6 a7 a8 a9 a10 a11 a12 a13 a14 a15 p1 (0 : Int32) (0 : Int32) o_own0 o_own1 o_threatMany o_length o_holes o_tellings o_game u2 o_kept o_isKept o_threatOf o_threatSet o_text o_far o_back o_hole o_isWon o_won o_lasts o_power o_told (0 : Int32)  _ hu3) ⟨rfl, rfl, Nat.le_of_ble_eq_true rfl, Nat.le_of_ble_eq_true rfl⟩ hP hD hS hA hK [0, 1, 2, 3, 4, 5, 6, 7, 8, 9, 10, 11, 12, 13, 14, 15] [] rfl rfl rfl rfl (by decide) (hP.sub [] rfl) Ap_nil (q0 := 0) rfl rfl rfl hl rfl rfl (Nat.le_of_ble_eq_true rfl) ⟨Nat.zero_le _, Nat.zero_le _⟩ dX6_begin_39 (fun H locs hP hD hS => ?_)
    have hP : va_P D vwCl (wX6 C a0 a1 a2 a3 a4 a5 a6 a7 a8 a9 a10 a11 a12 a13 a14 a15 p1 (0 : Int32) (0 : Int32) u3.1 u3.2 o_threatMany o_length o_holes o_tellings o_game u2 o_kept o_isKept o_threatOf o_threatSet o_text o_far o_back o_hole o_isWon o_won o_lasts o_power o_told) H := hP.sub [0, 1, 2, 3, 4, 5, 6, 7, 8, 9, 10, 11, 12, 13, 14, 15] rfl
    have hD : va_D A (wX6 C a0 a1 a2 a3 a4 a5 a6 a7 a8 a9 a10 a11 a12 a13 a14 a15 p1 (0 : Int32) (0 : Int32) u3.1 u3.2 o_threatMany o_length o_holes o_tellings o_game u2 o_kept o_isKept o_threatOf o_threatSet o_text o_far o_back o_hole o_isWon o_won o_lasts o_power o_told) := hD.sub [0, 1, 2, 3, 4, 5, 6, 7, 8, 9, 10, 11, 12, 13, 14, 15] rfl rfl
    refine lv_aload_n hx hb dX6_begin_42 rfl (lv_at hl 1 rfl) ?_
    refine lv_iconst (v := (0 : Int32)) hx hb dX6_begin_43 (by decide) ?_
    refine va_put (D := D) (ci := 6) (v := .int (0 : Int32)) (ty := .int) (C := RX6) (T := TX6) (N := 24) hx hb hts inX6 tyX6 tyX6_ok nmX6 hown hK hP hD hS 0 rfl rfl 11 (by decide) (hts _ q_665) (fun _ h9 => h9) rfl (by decide +kernel) rfl rfl (Nat.le_of_ble_eq_true rfl) dX6_begin_44 (fun H locs hP hD hS => ?_)
    have hP : va_P D vwCl (wX6 C a0 a1 a2 a3 a4 a5 a6 a7 a8 a9 a10 a11 a12 a13 a14 a15 p1 (0 : Int32) (0 : Int32) u3.1 u3.2 (0 : Int32) o_length o_holes o_tellings o_game u2 o_kept o_isKept o_threatOf o_threatSet o_text o_far o_back o_hole o_isWon o_won o_lasts o_power o_told) H := hP
    have hD : va_D A (wX6 C a0 a1 a2 a3 a4 a5 a6 a7 a8 a9 a10 a11 a12 a13 a14 a15 p1 (0 : Int32) (0 : Int32) u3.1 u3.2 (0 : Int32) o_length o_holes o_tellings o_game u2 o_kept o_isKept o_threatOf o_threatSet o_text o_far o_back o_hole o_isWon o_won o_lasts o_power o_told) := hD
    refine lv_iload_n hx hb dX6_begin_47 rfl (lv_at hl 0 rfl) ?_
    have hf := Option.some.inj hf
    subst hf
    exact rWi hc rfl hP hD hS dX6_begin_48
  · have hf := if_t hf c1
    refine lv_bipush (v := (-12 : Int32)) hx hb dX6_begin_10 (by decide) ?_
    have hf := Option.some.inj hf
    subst hf
    exact rWi hc rfl hP hD hS dX6_begin_12
abbrev R_X6_rows : Room := { frames := 0, cells := 0, slots := 0, locals := 0 }
def m_X6_rows (o_n : Int32) : Int32 := o_n
set_option maxHeartbeats 4000000 in
set_option maxRecDepth 100000 in
theorem c_X6_rows (l : Launch) (D : va_G) (C : Nat → ClassId) (z0 : Nat) (o_n : Int32) (r_o_game : Nat) (o_all : Int32) (o_made : Int32) (o_own0 : Int64) (o_own1 : Int64) (r_o_near : Nat) (r_o_kept : Nat) (r_o_isKept : Nat) (r_o_threatOf : Nat) (r_o_threatSet : Nat) (o_threatMany : Int32) (r_o_text : Nat) (o_length : Int32) (r_o_far : Nat) (r_o_back : Nat) (r_o_hole : Nat) (o_holes : Int32) (r_o_isWon : Nat) (r_o_won : Nat) (r_o_lasts : Nat) (r_o_power : Nat) (r_o_told : Nat) (o_tellings : Int32) (o : Int32) (hf : m_X6_rows o_n = o) : Met l yX6_rows (wl yX6_rows cX6_rows 1 (some .int)) R_X6_rows (PR [.ref z0] D C [cX6 z0 o_n r_o_game o_all o_made o_own0 o_own1 r_o_near r_o_kept r_o_isKept r_o_threatOf r_o_threatSet o_threatMany r_o_text o_length r_o_far r_o_back r_o_hole o_holes r_o_isWon r_o_won r_o_lasts r_o_power r_o_told o_tellings]) (vp_Si (fun r => r = o)) 0 0 (fun _ => False) := by
  refine Met_ofC (by decide) ?_
  intro p e s m args below meth c hc hv
  obtain ⟨rfl, hP, hK⟩ := hv
  have hx := hc.1
  have hb := hc.2.1
  have hown := hc.2.2.2.2.1
  have hts := hc.2.2.2.2.2.1
  refine en_F rfl (fun ls hl => ?_)
  have hl : lv_has ls 1 [(0, .ref z0)] := hl
  refine lv_aload_n hx hb dX6_rows_0 rfl (lv_at hl 0 rfl) ?_
  refine va_get (D := D) (ci := 6) (v := .int o_n) (C := RX6) (T := TX6) (N := 24) hx hb hts inX6 hown hK hP 0 rfl rfl 0 (by decide) (hts _ q_654) (fun _ h9 => h9) rfl dX6_rows_1 ?_
  exact rRi hc hf dX6_rows_4
abbrev R_X6_play : Room := { frames := 5, cells := 0, slots := 0, locals := 118 }
def m_X6_play (o_n : Int32) (o_all : Int32) (o_made : Int32) (o_own0 : Int64) (o_own1 : Int64) (o_game : Nat → Int32) (o_near : Nat → Int64) (p1 : Int32) : Option (Int32 × Int32 × Int32 × Int64 × Int64 × (Nat → Int32)) := (if (m_X6_isCell o_n p1) = 0 then some ((-11 : Int32), o_all, o_made, o_own0, o_own1, o_game) else (if (m_X6_has (m_X6_free o_n o_own0 o_own1) p1) = 0 then some ((-13 : Int32), o_all, o_made, o_own0, o_own1, o_game) else ((m_X6_winnerNow o_n o_own0 o_own1 o_near).bind fun u3 => (if u3 = (-15 : Int32) then ((m_X6_adds o_n o_made o_game p1).bind fun u5 => some ((u5.2.1 - (1 : Int32)), u5.1, u5.2.1, u5.2.2.1, u5.2.2.2.1, u5.2.2.2.2)) else some ((-13 : Int32), o_all, o_made, o_own0, o_own1, o_game)))))
set_option maxHeartbeats 4000000 in
set_option maxRecDepth 100000 in
theorem c_X6_play (l : Launch) (D : va_G) (C : Nat → ClassId) (sz : Nat) (a0 : Nat) (a1 : Nat) (a2 : Nat) (a3 : Nat) (a4 : Nat) (a5 : Nat) (a6 : Nat) (a7 : Nat) (a8 : Nat) (a9 : Nat) (a10 : Nat) (a11 : Nat) (a12 : Nat) (a13 : Nat) (a14 : Nat) (a15 : Nat) (o_n : Int32) (o_all : Int32) (o_made : Int32) (o_own0 : Int64) (o_own1 : Int64) (o_threatMany : Int32) (o_length : Int32) (o_holes : Int32) (o_tellings : Int32) (o_game : Nat → Int32) (o_near : Nat → Int64) (o_kept : Nat → Int32) (o_isKept : Nat → Int32) (o_threatOf : Nat → Int32) (o_threatSet : Nat → Int64) (o_text : Nat → Int32) (o_far : Nat → Int32) (o_back : Nat → Int32) (o_hole : Nat → Int32) (o_isWon : Nat → Int32) (o_won : Nat → Int32) (o_lasts : Nat → Int32) (o_power : Nat → Int32) (o_told : Nat → Int32) (p1 : Int32) (o : Int32 × Int32 × Int32 × Int64 × Int64 × (Nat → Int32)) (hf : m_X6_play o_n o_all o_made o_own0 o_own1 o_game o_near p1 = some o) : Met l yX6_play (wl yX6_play cX6_play 2 (some .int)) R_X6_play (PW [.ref a0, .int p1] D C sz (wX6 C a0 a1 a2 a3 a4 a5 a6 a7 a8 a9 a10 a11 a12 a13 a14 a15 o_n o_all o_made o_own0 o_own1 o_threatMany o_length o_holes o_tellings o_game o_near o_kept o_isKept o_threatOf o_threatSet o_text o_far o_back o_hole o_isWon o_won o_lasts o_power o_told) ([] : va_W)) (QWi D o.1 (wX6 C a0 a1 a2 a3 a4 a5 a6 a7 a8 a9 a10 a11 a12 a13 a14 a15 o_n o.2.1 o.2.2.1 o.2.2.2.1 o.2.2.2.2.1 o_threatMany o_length o_holes o_tellings o.2.2.2.2.2 o_near o_kept o_isKept o_threatOf o_threatSet o_text o_far o_back o_hole o_isWon o_won o_lasts o_power o_told) (va_A (wX6 C a0 a1 a2 a3 a4 a5 a6 a7 a8 a9 a10 a11 a12 a13 a14 a15 o_n o_all o_made o_own0 o_own1 o_threatMany o_length o_holes o_tellings o_game o_near o_kept o_isKept o_threatOf o_threatSet o_text o_far o_back o_hole o_isWon o_won o_lasts o_power o_told) sz)) 0 0 (va_A (wX6 C a0 a1 a2 a3 a4 a5 a6 a7 a8 a9 a10 a11 a12 a13 a14 a15 o_n o_all o_made o_own0 o_own1 o_threatMany o_length o_holes o_tellings o_game o_near o_kept o_isKept o_threatOf o_threatSet o_text o_far o_back o_hole o_isWon o_won o_lasts o_power o_told) sz) := by
  refine Met_ofC (by decide) ?_
  intro p e s m args below meth c hc hv
  obtain ⟨rfl, hsz, hP, hK, hD0, hO, hN0⟩ := hv
  subst hsz
  have hD := hD0.self (sz := s.heap.size)
  have hN : ∀ q ∈ ([] : va_W), ¬ va_A (wX6 C a0 a1 a2 a3 a4 a5 a6 a7 a8 a9 a10 a11 a12 a13 a14 a15 o_n o_all o_made o_own0 o_own1 o_threatMany o_length o_holes o_tellings o_game o_near o_kept o_isKept o_threatOf o_threatSet o_text o_far o_back o_hole o_isWon o_won o_lasts o_power o_told) s.heap.size q.1 := hN0
  generalize hAe : va_A (wX6 C a0 a1 a2 a3 a4 a5 a6 a7 a8 a9 a10 a11 a12 a13 a14 a15 o_n o_all o_made o_own0 o_own1 o_threatMany o_length o_holes o_tellings o_game o_near o_kept o_isKept o_threatOf o_threatSet o_text o_far o_back o_hole o_isWon o_won o_lasts o_power o_told) s.heap.size = A at hD hN ⊢
  have hA : ∀ q : Nat, s.heap.size ≤ q → A q := fun q h => by rw [← hAe]; exact Or.inr h
  have hS : va_S A s.heap s.heap [] := va_S.rf
  have hx := hc.1
  have hb := hc.2.1
  have hown := hc.2.2.2.2.1
  have hts := hc.2.2.2.2.2.1
  refine en_F rfl (fun ls hl => ?_)
  have hl : lv_has ls 2 [(0, .ref a0), (1, .int p1)] := hl
  refine lv_aload_n hx hb dX6_play_0 rfl (lv_at hl 0 rfl) ?_
  refine lv_iload_n hx hb dX6_play_1 rfl (lv_at hl 1 rfl) ?_
  refine rcVi (As := [.int p1]) (rest := []) hc k_X6_122 (c_X6_isCell l D C a0 o_n a1 o_all o_made o_own0 o_own1 a2 a3 a4 a5 a6 o_threatMany a7 o_length a8 a9 a10 o_holes a11 a12 a13 a14 a15 o_tellings p1  _ rfl) ⟨rfl, rfl, Nat.le_of_ble_eq_true rfl, Nat.le_of_ble_eq_true rfl⟩ (hP.sub [0] rfl) hK (q0 := 0) rfl rfl rfl hl rfl rfl (Nat.le_of_ble_eq_true rfl) ⟨Nat.zero_le _, Nat.zero_le _⟩ dX6_play_2 ?_
  refine lv_if_ne (tgt := 11) hx hb dX6_play_5 (by decide) (fun c1 => ?_) (fun c1 => ?_)
  · have hf := if_f hf c1
    refine lv_aload_n hx hb dX6_play_11 rfl (lv_at hl 0 rfl) ?_
    refine rcVl (As := []) (rest := []) hc k_X6_126 (c_X6_free l D C a0 o_n a1 o_all o_made o_own0 o_own1 a2 a3 a4 a5 a6 o_threatMany a7 o_length a8 a9 a10 o_holes a11 a12 a13 a14 a15 o_tellings  _ rfl) ⟨rfl, rfl, Nat.le_of_ble_eq_true rfl, Nat.le_of_ble_eq_true rfl⟩ (hP.sub [0] rfl) hK (q0 := 0) rfl rfl rfl hl rfl rfl (Nat.le_of_ble_eq_true rfl) ⟨Nat.zero_le _, Nat.zero_le _⟩ dX6_play_12 ?_
    refine lv_iload_n hx hb dX6_play_15 rfl (lv_at hl 1 rfl) ?_
    refine rcSi (As := [.long (m_X6_free o_n o_own0 o_own1), .int p1]) (rest := []) hc k_X6_85 (c_X6_has l D C (m_X6_free o_n o_own0 o_own1) p1  _ rfl) ⟨rfl, rfl, Nat.le_of_ble_eq_true rfl, Nat.le_of_ble_eq_true rfl⟩ (hP.sub [] rfl) hK hl rfl rfl (Nat.le_of_ble_eq_true rfl) ⟨Nat.zero_le _, Nat.zero_le _⟩ dX6_play_16 ?_
    refine lv_if_eq (tgt := 31) hx hb dX6_play_19 (by decide) (fun c2 => ?_) (fun c2 => ?_)
    · have hf := if_t hf c2
      refine lv_bipush (v := (-13 : Int32)) hx hb dX6_play_31 (by decide) ?_
      have hf := Option.some.inj hf
      subst hf
      exact rWi hc rfl hP hD hS dX6_play_33
    · have hf := if_f hf c2
      refine lv_aload_n hx hb dX6_play_22 rfl (lv_at hl 0 rfl) ?_
      obtain ⟨u3, hu3, hf⟩ := bind_some hf
      refine rcVi (As := []) (rest := []) hc k_X6_129 (c_X6_winnerNow l D C a0 a2 o_n a1 o_all o_made o_own0 o_own1 a3 a4 a5 a6 o_threatMany a7 o_length a8 a9 a10 o_holes a11 a12 a13 a14 a15 o_tellings o_near  _ hu3) ⟨rfl, rfl, Nat.le_of_ble_eq_true rfl, Nat.le_of_ble_eq_true rfl⟩ (hP.sub [0, 2] rfl) hK (q0 := 0) rfl rfl rfl hl rfl rfl (Nat.le_of_ble_eq_true rfl) ⟨Nat.zero_le _, Nat.zero_le _⟩ dX6_play_23 ?_
      refine lv_bipush (v := (-15 : Int32)) hx hb dX6_play_26 (by decide) ?_
      refine lv_icmp_eq (tgt := 34) hx hb dX6_play_28 (by decide) (fun c4 => ?_) (fun c4 => ?_)
      · have hf := if_t hf c4
        refine lv_aload_n hx hb dX6_play_34 rfl (lv_at hl 0 rfl) ?_
        refine lv_iload_n hx hb dX6_play_35 rfl (lv_at hl 1 rfl) ?_
        obtain ⟨u5, hu5, hf⟩ := bind_some hf
        refine wcVv (A := A) (wc := wX6 C a0 a1 a2 a3 a4 a5 a6 a7 a8 a9 a10 a11 a12 a13 a14 a15 o_n o_all o_made o_own0 o_own1 o_threatMany o_length o_holes o_tellings o_game o_near o_kept o_isKept o_threatOf o_threatSet o_text o_far o_back o_hole o_isWon o_won o_lasts o_power o_told) (w1 := wX6 C a0 a1 a2 a3 a4 a5 a6 a7 a8 a9 a10 a11 a12 a13 a14 a15 o_n u5.1 u5.2.1 u5.2.2.1 u5.2.2.2.1 o_threatMany o_length o_holes o_tellings u5.2.2.2.2 o_near o_kept o_isKept o_threatOf o_threatSet o_text o_far o_back o_hole o_isWon o_won o_lasts o_power o_told) (rc := []) (As := [.int p1]) (rest := []) hc k_X6_133 (c_X6_adds l D C _ a0 a1 a2 a3 a4 a5 a6 a7 a8 a9 a10 a11 a12 a13 a14 a15 o_n o_all o_made o_own0 o_own1 o_threatMany o_length o_holes o_tellings o_game o_near o_kept o_isKept o_threatOf o_threatSet o_text o_far o_back o_hole o_isWon o_won o_lasts o_power o_told p1  _ hu5) ⟨rfl, rfl, Nat.le_of_ble_eq_true rfl, Nat.le_of_ble_eq_true rfl⟩ hP hD hS hA hK [0, 1, 2, 3, 4, 5, 6, 7, 8, 9, 10, 11, 12, 13, 14, 15] [] rfl rfl rfl rfl (by decide) (hP.sub [] rfl) Ap_nil (q0 := 0) rfl rfl rfl hl rfl rfl (Nat.le_of_ble_eq_true rfl) ⟨Nat.zero_le _, Nat.zero_le _⟩ dX6_play_36 (fun H locs hP hD hS => ?_)
        have hP : va_P D vwCl (wX6 C a0 a1 a2 a3 a4 a5 a6 a7 a8 a9 a10 a11 a12 a13 a14 a15 o_n u5.1 u5.2.1 u5.2.2.1 u5.2.2.2.1 o_threatMany o_length o_holes o_tellings u5.2.2.2.2 o_near o_kept o_isKept o_threatOf o_threatSet o_text o_far o_back o_hole o_isWon o_won o_lasts o_power o_told) H := hP.sub [0, 1, 2, 3, 4, 5, 6, 7, 8, 9, 10, 11, 12, 13, 14, 15] rfl
        have hD : va_D A (wX6 C a0 a1 a2 a3 a4 a5 a6 a7 a8 a9 a10 a11 a12 a13 a14 a15 o_n u5.1 u5.2.1 u5.2.2.1 u5.2.2.2.1 o_threatMany o_length o_holes o_tellings u5.2.2.2.2 o_near o_kept o_isKept o_threatOf o_threatSet o_text o_far o_back o_hole o_isWon o_won o_lasts o_power o_told) := hD.sub [0, 1, 2, 3, 4, 5, 6, 7, 8, 9, 10, 11, 12, 13, 14, 15] rfl rfl
        refine lv_aload_n hx hb dX6_play_39 rfl (lv_at hl 0 rfl) ?_
        refine va_get (D := D) (ci := 6) (v := .int u5.2.1) (C := RX6) (T := TX6) (N := 24) hx hb hts inX6 hown hK hP 0 rfl rfl 3 (by decide) (hts _ q_657) (fun _ h9 => h9) rfl dX6_play_40 ?_
        refine lv_iconst (v := (1 : Int32)) hx hb dX6_play_43 (by decide) ?_
        refine lv_isub hx hb dX6_play_44 ?_
        have hf := Option.some.inj hf
        subst hf
        exact rWi hc rfl hP hD hS dX6_play_45
      · have hf := if_f hf c4
        refine lv_bipush (v := (-13 : Int32)) hx hb dX6_play_31 (by decide) ?_
        have hf := Option.some.inj hf
        subst hf
        exact rWi hc rfl hP hD hS dX6_play_33
  · have hf := if_t hf c1
    refine lv_bipush (v := (-11 : Int32)) hx hb dX6_play_8 (by decide) ?_
    have hf := Option.some.inj hf
    subst hf
    exact rWi hc rfl hP hD hS dX6_play_10
abbrev R_X6_swap : Room := { frames := 3, cells := 0, slots := 0, locals := 66 }
def m_X6_swap (o_n : Int32) (o_all : Int32) (o_made : Int32) (o_own0 : Int64) (o_own1 : Int64) (o_game : Nat → Int32) : Option (Int32 × Int32 × Int32 × Int64 × Int64 × (Nat → Int32)) := (if o_made = (1 : Int32) then ((m_X6_adds o_n o_made o_game (-16 : Int32)).bind fun u2 => (if o_n = 0 then none else (if o_n = 0 then none else some ((((jirem (u2.2.2.2.2 (0 : Int32).toNatClampNeg) o_n) * o_n) + ((u2.2.2.2.2 (0 : Int32).toNatClampNeg) / o_n)), u2.1, u2.2.1, u2.2.2.1, u2.2.2.2.1, u2.2.2.2.2)))) else some ((-13 : Int32), o_all, o_made, o_own0, o_own1, o_game))
set_option maxHeartbeats 4000000 in
set_option maxRecDepth 100000 in
theorem c_X6_swap (l : Launch) (D : va_G) (C : Nat → ClassId) (sz : Nat) (a0 : Nat) (a1 : Nat) (a2 : Nat) (a3 : Nat) (a4 : Nat) (a5 : Nat) (a6 : Nat) (a7 : Nat) (a8 : Nat) (a9 : Nat) (a10 : Nat) (a11 : Nat) (a12 : Nat) (a13 : Nat) (a14 : Nat) (a15 : Nat) (o_n : Int32) (o_all : Int32) (o_made : Int32) (o_own0 : Int64) (o_own1 : Int64) (o_threatMany : Int32) (o_length : Int32) (o_holes : Int32) (o_tellings : Int32) (o_game : Nat → Int32) (o_near : Nat → Int64) (o_kept : Nat → Int32) (o_isKept : Nat → Int32) (o_threatOf : Nat → Int32) (o_threatSet : Nat → Int64) (o_text : Nat → Int32) (o_far : Nat → Int32) (o_back : Nat → Int32) (o_hole : Nat → Int32) (o_isWon : Nat → Int32) (o_won : Nat → Int32) (o_lasts : Nat → Int32) (o_power : Nat → Int32) (o_told : Nat → Int32) (o : Int32 × Int32 × Int32 × Int64 × Int64 × (Nat → Int32)) (hf : m_X6_swap o_n o_all o_made o_own0 o_own1 o_game = some o) : Met l yX6_swap (wl yX6_swap cX6_swap 1 (some .int)) R_X6_swap (PW [.ref a0] D C sz (wX6 C a0 a1 a2 a3 a4 a5 a6 a7 a8 a9 a10 a11 a12 a13 a14 a15 o_n o_all o_made o_own0 o_own1 o_threatMany o_length o_holes o_tellings o_game o_near o_kept o_isKept o_threatOf o_threatSet o_text o_far o_back o_hole o_isWon o_won o_lasts o_power o_told) ([] : va_W)) (QWi D o.1 (wX6 C a0 a1 a2 a3 a4 a5 a6 a7 a8 a9 a10 a11 a12 a13 a14 a15 o_n o.2.1 o.2.2.1 o.2.2.2.1 o.2.2.2.2.1 o_threatMany o_length o_holes o_tellings o.2.2.2.2.2 o_near o_kept o_isKept o_threatOf o_threatSet o_text o_far o_back o_hole o_isWon o_won o_lasts o_power o_told) (va_A (wX6 C a0 a1 a2 a3 a4 a5 a6 a7 a8 a9 a10 a11 a12 a13 a14 a15 o_n o_all o_made o_own0 o_own1 o_threatMany o_length o_holes o_tellings o_game o_near o_kept o_isKept o_threatOf o_threatSet o_text o_far o_back o_hole o_isWon o_won o_lasts o_power o_told) sz)) 0 0 (va_A (wX6 C a0 a1 a2 a3 a4 a5 a6 a7 a8 a9 a10 a11 a12 a13 a14 a15 o_n o_all o_made o_own0 o_own1 o_threatMany o_length o_holes o_tellings o_game o_near o_kept o_isKept o_threatOf o_threatSet o_text o_far o_back o_hole o_isWon o_won o_lasts o_power o_told) sz) := by
  refine Met_ofC (by decide) ?_
  intro p e s m args below meth c hc hv
  obtain ⟨rfl, hsz, hP, hK, hD0, hO, hN0⟩ := hv
  subst hsz
  have hD := hD0.self (sz := s.heap.size)
  have hN : ∀ q ∈ ([] : va_W), ¬ va_A (wX6 C a0 a1 a2 a3 a4 a5 a6 a7 a8 a9 a10 a11 a12 a13 a14 a15 o_n o_all o_made o_own0 o_own1 o_threatMany o_length o_holes o_tellings o_game o_near o_kept o_isKept o_threatOf o_threatSet o_text o_far o_back o_hole o_isWon o_won o_lasts o_power o_told) s.heap.size q.1 := hN0
  generalize hAe : va_A (wX6 C a0 a1 a2 a3 a4 a5 a6 a7 a8 a9 a10 a11 a12 a13 a14 a15 o_n o_all o_made o_own0 o_own1 o_threatMany o_length o_holes o_tellings o_game o_near o_kept o_isKept o_threatOf o_threatSet o_text o_far o_back o_hole o_isWon o_won o_lasts o_power o_told) s.heap.size = A at hD hN ⊢
  have hA : ∀ q : Nat, s.heap.size ≤ q → A q := fun q h => by rw [← hAe]; exact Or.inr h
  have hS : va_S A s.heap s.heap [] := va_S.rf
  have hx := hc.1
  have hb := hc.2.1
  have hown := hc.2.2.2.2.1
  have hts := hc.2.2.2.2.2.1
  refine en_F rfl (fun ls hl => ?_)
  have hl : lv_has ls 1 [(0, .ref a0)] := hl
  refine lv_aload_n hx hb dX6_swap_0 rfl (lv_at hl 0 rfl) ?_
  refine va_get (D := D) (ci := 6) (v := .int o_made) (C := RX6) (T := TX6) (N := 24) hx hb hts inX6 hown hK hP 0 rfl rfl 3 (by decide) (hts _ q_657) (fun _ h9 => h9) rfl dX6_swap_1 ?_
  refine lv_iconst (v := (1 : Int32)) hx hb dX6_swap_4 (by decide) ?_
  refine lv_icmp_eq (tgt := 11) hx hb dX6_swap_5 (by decide) (fun c1 => ?_) (fun c1 => ?_)
  · have hf := if_t hf c1
    refine lv_aload_n hx hb dX6_swap_11 rfl (lv_at hl 0 rfl) ?_
    refine lv_bipush (v := (-16 : Int32)) hx hb dX6_swap_12 (by decide) ?_
    obtain ⟨u2, hu2, hf⟩ := bind_some hf
    refine wcVv (A := A) (wc := wX6 C a0 a1 a2 a3 a4 a5 a6 a7 a8 a9 a10 a11 a12 a13 a14 a15 o_n o_all o_made o_own0 o_own1 o_threatMany o_length o_holes o_tellings o_game o_near o_kept o_isKept o_threatOf o_threatSet o_text o_far o_back o_hole o_isWon o_won o_lasts o_power o_told) (w1 := wX6 C a0 a1 a2 a3 a4 a5 a6 a7 a8 a9 a10 a11 a12 a13 a14 a15 o_n u2.1 u2.2.1 u2.2.2.1 u2.2.2.2.1 o_threatMany o_length o_holes o_tellings u2.2.2.2.2 o_near o_kept o_isKept o_threatOf o_threatSet o_text o_far o_back o_hole o_isWon o_won o_lasts o_power o_told) (rc := []) (As := [.int (-16 : Int32)]) (rest := []) hc k_X6_133 (c_X6_adds l D C _ a0 a1 a2 a3 a4 a5 a6 a7 a8 a9 a10 a11 a12 a13 a14 a15 o_n o_all o_made o_own0 o_own1 o_threatMany o_length o_holes o_tellings o_game o_near o_kept o_isKept o_threatOf o_threatSet o_text o_far o_back o_hole o_isWon o_won o_lasts o_power o_told (-16 : Int32)  _ hu2) ⟨rfl, rfl, Nat.le_of_ble_eq_true rfl, Nat.le_of_ble_eq_true rfl⟩ hP hD hS hA hK [0, 1, 2, 3, 4, 5, 6, 7, 8, 9, 10, 11, 12, 13, 14, 15] [] rfl rfl rfl rfl (by decide) (hP.sub [] rfl) Ap_nil (q0 := 0) rfl rfl rfl hl rfl rfl (Nat.le_of_ble_eq_true rfl) ⟨Nat.zero_le _, Nat.zero_le _⟩ dX6_swap_14 (fun H locs hP hD hS => ?_)
    have hP : va_P D vwCl (wX6 C a0 a1 a2 a3 a4 a5 a6 a7 a8 a9 a10 a11 a12 a13 a14 a15 o_n u2.1 u2.2.1 u2.2.2.1 u2.2.2.2.1 o_threatMany o_length o_holes o_tellings u2.2.2.2.2 o_near o_kept o_isKept o_threatOf o_threatSet o_text o_far o_back o_hole o_isWon o_won o_lasts o_power o_told) H := hP.sub [0, 1, 2, 3, 4, 5, 6, 7, 8, 9, 10, 11, 12, 13, 14, 15] rfl
    have hD : va_D A (wX6 C a0 a1 a2 a3 a4 a5 a6 a7 a8 a9 a10 a11 a12 a13 a14 a15 o_n u2.1 u2.2.1 u2.2.2.1 u2.2.2.2.1 o_threatMany o_length o_holes o_tellings u2.2.2.2.2 o_near o_kept o_isKept o_threatOf o_threatSet o_text o_far o_back o_hole o_isWon o_won o_lasts o_power o_told) := hD.sub [0, 1, 2, 3, 4, 5, 6, 7, 8, 9, 10, 11, 12, 13, 14, 15] rfl rfl
    refine lv_aload_n hx hb dX6_swap_17 rfl (lv_at hl 0 rfl) ?_
    refine va_get (D := D) (ci := 6) (v := .ref a1) (C := RX6) (T := TX6) (N := 24) hx hb hts inX6 hown hK hP 0 rfl rfl 1 (by decide) (hts _ q_655) (fun _ h9 => h9) rfl dX6_swap_18 ?_
    refine lv_iconst (v := (0 : Int32)) hx hb dX6_swap_21 (by decide) ?_
    refine va_iald hx hb hK hP 1 0 rfl rfl (okI_in (by decide)) dX6_swap_22 ?_
    refine lv_aload_n hx hb dX6_swap_23 rfl (lv_at hl 0 rfl) ?_
    refine va_get (D := D) (ci := 6) (v := .int o_n) (C := RX6) (T := TX6) (N := 24) hx hb hts inX6 hown hK hP 0 rfl rfl 0 (by decide) (hts _ q_654) (fun _ h9 => h9) rfl dX6_swap_24 ?_
    obtain ⟨h3, hf⟩ := nz_t hf
    refine lv_irem hx hb dX6_swap_27 h3 ?_
    refine lv_aload_n hx hb dX6_swap_28 rfl (lv_at hl 0 rfl) ?_
    refine va_get (D := D) (ci := 6) (v := .int o_n) (C := RX6) (T := TX6) (N := 24) hx hb hts inX6 hown hK hP 0 rfl rfl 0 (by decide) (hts _ q_654) (fun _ h9 => h9) rfl dX6_swap_29 ?_
    refine lv_imul hx hb dX6_swap_32 ?_
    refine lv_aload_n hx hb dX6_swap_33 rfl (lv_at hl 0 rfl) ?_
    refine va_get (D := D) (ci := 6) (v := .ref a1) (C := RX6) (T := TX6) (N := 24) hx hb hts inX6 hown hK hP 0 rfl rfl 1 (by decide) (hts _ q_655) (fun _ h9 => h9) rfl dX6_swap_34 ?_
    refine lv_iconst (v := (0 : Int32)) hx hb dX6_swap_37 (by decide) ?_
    refine va_iald hx hb hK hP 1 0 rfl rfl (okI_in (by decide)) dX6_swap_38 ?_
    refine lv_aload_n hx hb dX6_swap_39 rfl (lv_at hl 0 rfl) ?_
    refine va_get (D := D) (ci := 6) (v := .int o_n) (C := RX6) (T := TX6) (N := 24) hx hb hts inX6 hown hK hP 0 rfl rfl 0 (by decide) (hts _ q_654) (fun _ h9 => h9) rfl dX6_swap_40 ?_
    obtain ⟨h4, hf⟩ := nz_t hf
    refine lv_idiv hx hb dX6_swap_43 h4 ?_
    refine lv_iadd hx hb dX6_swap_44 ?_
    have hf := Option.some.inj hf
    subst hf
    exact rWi hc rfl hP hD hS dX6_swap_45
  · have hf := if_f hf c1
    refine lv_bipush (v := (-13 : Int32)) hx hb dX6_swap_8 (by decide) ?_
    have hf := Option.some.inj hf
    subst hf
    exact rWi hc rfl hP hD hS dX6_swap_10
abbrev R_X6_takeBack : Room := { frames := 2, cells := 0, slots := 0, locals := 45 }
def m_X6_takeBack (o_n : Int32) (o_made : Int32) (o_own0 : Int64) (o_own1 : Int64) (o_game : Nat → Int32) : Option (Int32 × Int32 × Int64 × Int64) := (if o_made = 0 then some ((-13 : Int32), o_made, o_own0, o_own1) else ((m_X6_goes o_n o_game (o_made - (1 : Int32))).bind fun u2 => some ((o_made - (1 : Int32)), (o_made - (1 : Int32)), u2.1, u2.2)))
set_option maxHeartbeats 4000000 in
set_option maxRecDepth 100000 in
theorem c_X6_takeBack (l : Launch) (D : va_G) (C : Nat → ClassId) (sz : Nat) (a0 : Nat) (a1 : Nat) (a2 : Nat) (a3 : Nat) (a4 : Nat) (a5 : Nat) (a6 : Nat) (a7 : Nat) (a8 : Nat) (a9 : Nat) (a10 : Nat) (a11 : Nat) (a12 : Nat) (a13 : Nat) (a14 : Nat) (a15 : Nat) (o_n : Int32) (o_all : Int32) (o_made : Int32) (o_own0 : Int64) (o_own1 : Int64) (o_threatMany : Int32) (o_length : Int32) (o_holes : Int32) (o_tellings : Int32) (o_game : Nat → Int32) (o_near : Nat → Int64) (o_kept : Nat → Int32) (o_isKept : Nat → Int32) (o_threatOf : Nat → Int32) (o_threatSet : Nat → Int64) (o_text : Nat → Int32) (o_far : Nat → Int32) (o_back : Nat → Int32) (o_hole : Nat → Int32) (o_isWon : Nat → Int32) (o_won : Nat → Int32) (o_lasts : Nat → Int32) (o_power : Nat → Int32) (o_told : Nat → Int32) (o : Int32 × Int32 × Int64 × Int64) (hf : m_X6_takeBack o_n o_made o_own0 o_own1 o_game = some o) : Met l yX6_takeBack (wl yX6_takeBack cX6_takeBack 1 (some .int)) R_X6_takeBack (PW [.ref a0] D C sz (wX6 C a0 a1 a2 a3 a4 a5 a6 a7 a8 a9 a10 a11 a12 a13 a14 a15 o_n o_all o_made o_own0 o_own1 o_threatMany o_length o_holes o_tellings o_game o_near o_kept o_isKept o_threatOf o_threatSet o_text o_far o_back o_hole o_isWon o_won o_lasts o_power o_told) ([] : va_W)) (QWi D o.1 (wX6 C a0 a1 a2 a3 a4 a5 a6 a7 a8 a9 a10 a11 a12 a13 a14 a15 o_n o_all o.2.1 o.2.2.1 o.2.2.2 o_threatMany o_length o_holes o_tellings o_game o_near o_kept o_isKept o_threatOf o_threatSet o_text o_far o_back o_hole o_isWon o_won o_lasts o_power o_told) (va_A (wX6 C a0 a1 a2 a3 a4 a5 a6 a7 a8 a9 a10 a11 a12 a13 a14 a15 o_n o_all o_made o_own0 o_own1 o_threatMany o_length o_holes o_tellings o_game o_near o_kept o_isKept o_threatOf o_threatSet o_text o_far o_back o_hole o_isWon o_won o_lasts o_power o_told) sz)) 0 0 (va_A (wX6 C a0 a1 a2 a3 a4 a5 a6 a7 a8 a9 a10 a11 a12 a13 a14 a15 o_n o_all o_made o_own0 o_own1 o_threatMany o_length o_holes o_tellings o_game o_near o_kept o_isKept o_threatOf o_threatSet o_text o_far o_back o_hole o_isWon o_won o_lasts o_power o_told) sz) := by
  refine Met_ofC (by decide) ?_
  intro p e s m args below meth c hc hv
  obtain ⟨rfl, hsz, hP, hK, hD0, hO, hN0⟩ := hv
  subst hsz
  have hD := hD0.self (sz := s.heap.size)
  have hN : ∀ q ∈ ([] : va_W), ¬ va_A (wX6 C a0 a1 a2 a3 a4 a5 a6 a7 a8 a9 a10 a11 a12 a13 a14 a15 o_n o_all o_made o_own0 o_own1 o_threatMany o_length o_holes o_tellings o_game o_near o_kept o_isKept o_threatOf o_threatSet o_text o_far o_back o_hole o_isWon o_won o_lasts o_power o_told) s.heap.size q.1 := hN0
  generalize hAe : va_A (wX6 C a0 a1 a2 a3 a4 a5 a6 a7 a8 a9 a10 a11 a12 a13 a14 a15 o_n o_all o_made o_own0 o_own1 o_threatMany o_length o_holes o_tellings o_game o_near o_kept o_isKept o_threatOf o_threatSet o_text o_far o_back o_hole o_isWon o_won o_lasts o_power o_told) s.heap.size = A at hD hN ⊢
  have hA : ∀ q : Nat, s.heap.size ≤ q → A q := fun q h => by rw [← hAe]; exact Or.inr h
  have hS : va_S A s.heap s.heap [] := va_S.rf
  have hx := hc.1
  have hb := hc.2.1
  have hown := hc.2.2.2.2.1
  have hts := hc.2.2.2.2.2.1
  refine en_F rfl (fun ls hl => ?_)
  have hl : lv_has ls 1 [(0, .ref a0)] := hl
  refine lv_aload_n hx hb dX6_takeBack_0 rfl (lv_at hl 0 rfl) ?_
  refine va_get (D := D) (ci := 6) (v := .int o_made) (C := RX6) (T := TX6) (N := 24) hx hb hts inX6 hown hK hP 0 rfl rfl 3 (by decide) (hts _ q_657) (fun _ h9 => h9) rfl dX6_takeBack_1 ?_
  refine lv_if_ne (tgt := 10) hx hb dX6_takeBack_4 (by decide) (fun c1 => ?_) (fun c1 => ?_)
  · have hf := if_f hf c1
    refine lv_aload_n hx hb dX6_takeBack_10 rfl (lv_at hl 0 rfl) ?_
    refine lv_dup hx hb dX6_takeBack_11 rfl ?_
    refine va_get (D := D) (ci := 6) (v := .int o_made) (C := RX6) (T := TX6) (N := 24) hx hb hts inX6 hown hK hP 0 rfl rfl 3 (by decide) (hts _ q_657) (fun _ h9 => h9) rfl dX6_takeBack_12 ?_
    refine lv_iconst (v := (1 : Int32)) hx hb dX6_takeBack_15 (by decide) ?_
    refine lv_isub hx hb dX6_takeBack_16 ?_
    refine va_put (D := D) (ci := 6) (v := .int (o_made - (1 : Int32))) (ty := .int) (C := RX6) (T := TX6) (N := 24) hx hb hts inX6 tyX6 tyX6_ok nmX6 hown hK hP hD hS 0 rfl rfl 3 (by decide) (hts _ q_657) (fun _ h9 => h9) rfl (by decide +kernel) rfl rfl (Nat.le_of_ble_eq_true rfl) dX6_takeBack_17 (fun H locs hP hD hS => ?_)
    have hP : va_P D vwCl (wX6 C a0 a1 a2 a3 a4 a5 a6 a7 a8 a9 a10 a11 a12 a13 a14 a15 o_n o_all (o_made - (1 : Int32)) o_own0 o_own1 o_threatMany o_length o_holes o_tellings o_game o_near o_kept o_isKept o_threatOf o_threatSet o_text o_far o_back o_hole o_isWon o_won o_lasts o_power o_told) H := hP
    have hD : va_D A (wX6 C a0 a1 a2 a3 a4 a5 a6 a7 a8 a9 a10 a11 a12 a13 a14 a15 o_n o_all (o_made - (1 : Int32)) o_own0 o_own1 o_threatMany o_length o_holes o_tellings o_game o_near o_kept o_isKept o_threatOf o_threatSet o_text o_far o_back o_hole o_isWon o_won o_lasts o_power o_told) := hD
    refine lv_aload_n hx hb dX6_takeBack_20 rfl (lv_at hl 0 rfl) ?_
    refine lv_aload_n hx hb dX6_takeBack_21 rfl (lv_at hl 0 rfl) ?_
    refine va_get (D := D) (ci := 6) (v := .int (o_made - (1 : Int32))) (C := RX6) (T := TX6) (N := 24) hx hb hts inX6 hown hK hP 0 rfl rfl 3 (by decide) (hts _ q_657) (fun _ h9 => h9) rfl dX6_takeBack_22 ?_
    obtain ⟨u2, hu2, hf⟩ := bind_some hf
    refine wcVv (A := A) (wc := wX6 C a0 a1 a2 a3 a4 a5 a6 a7 a8 a9 a10 a11 a12 a13 a14 a15 o_n o_all (o_made - (1 : Int32)) o_own0 o_own1 o_threatMany o_length o_holes o_tellings o_game o_near o_kept o_isKept o_threatOf o_threatSet o_text o_far o_back o_hole o_isWon o_won o_lasts o_power o_told) (w1 := wX6 C a0 a1 a2 a3 a4 a5 a6 a7 a8 a9 a10 a11 a12 a13 a14 a15 o_n o_all (o_made - (1 : Int32)) u2.1 u2.2 o_threatMany o_length o_holes o_tellings o_game o_near o_kept o_isKept o_threatOf o_threatSet o_text o_far o_back o_hole o_isWon o_won o_lasts o_power o_told) (rc := []) (As := [.int (o_made - (1 : Int32))]) (rest := []) hc k_X6_115 (c_X6_goes l D C _ a0 a1 a2 a3 a4 a5 a6 a7 a8 a9 a10 a11 a12 a13 a14 a15 o_n o_all (o_made - (1 : Int32)) o_own0 o_own1 o_threatMany o_length o_holes o_tellings o_game o_near o_kept o_isKept o_threatOf o_threatSet o_text o_far o_back o_hole o_isWon o_won o_lasts o_power o_told (o_made - (1 : Int32))  _ hu2) ⟨rfl, rfl, Nat.le_of_ble_eq_true rfl, Nat.le_of_ble_eq_true rfl⟩ hP hD hS hA hK [0, 1, 2, 3, 4, 5, 6, 7, 8, 9, 10, 11, 12, 13, 14, 15] [] rfl rfl rfl rfl (by decide) (hP.sub [] rfl) Ap_nil (q0 := 0) rfl rfl rfl hl rfl rfl (Nat.le_of_ble_eq_true rfl) ⟨Nat.zero_le _, Nat.zero_le _⟩ dX6_takeBack_25 (fun H locs hP hD hS => ?_)
    have hP : va_P D vwCl (wX6 C a0 a1 a2 a3 a4 a5 a6 a7 a8 a9 a10 a11 a12 a13 a14 a15 o_n o_all (o_made - (1 : Int32)) u2.1 u2.2 o_threatMany o_length o_holes o_tellings o_game o_near o_kept o_isKept o_threatOf o_threatSet o_text o_far o_back o_hole o_isWon o_won o_lasts o_power o_told) H := hP.sub [0, 1, 2, 3, 4, 5, 6, 7, 8, 9, 10, 11, 12, 13, 14, 15] rfl
    have hD : va_D A (wX6 C a0 a1 a2 a3 a4 a5 a6 a7 a8 a9 a10 a11 a12 a13 a14 a15 o_n o_all (o_made - (1 : Int32)) u2.1 u2.2 o_threatMany o_length o_holes o_tellings o_game o_near o_kept o_isKept o_threatOf o_threatSet o_text o_far o_back o_hole o_isWon o_won o_lasts o_power o_told) := hD.sub [0, 1, 2, 3, 4, 5, 6, 7, 8, 9, 10, 11, 12, 13, 14, 15] rfl rfl
    refine lv_aload_n hx hb dX6_takeBack_28 rfl (lv_at hl 0 rfl) ?_
    refine va_get (D := D) (ci := 6) (v := .int (o_made - (1 : Int32))) (C := RX6) (T := TX6) (N := 24) hx hb hts inX6 hown hK hP 0 rfl rfl 3 (by decide) (hts _ q_657) (fun _ h9 => h9) rfl dX6_takeBack_29 ?_
    have hf := Option.some.inj hf
    subst hf
    exact rWi hc rfl hP hD hS dX6_takeBack_32
  · have hf := if_t hf c1
    refine lv_bipush (v := (-13 : Int32)) hx hb dX6_takeBack_7 (by decide) ?_
    have hf := Option.some.inj hf
    subst hf
    exact rWi hc rfl hP hD hS dX6_takeBack_9
abbrev R_X6_again : Room := { frames := 2, cells := 0, slots := 0, locals := 45 }
def m_X6_again (o_n : Int32) (o_all : Int32) (o_made : Int32) (o_own0 : Int64) (o_own1 : Int64) (o_game : Nat → Int32) : Option (Int32 × Int32 × Int64 × Int64) := (if o_made = o_all then some ((-13 : Int32), o_made, o_own0, o_own1) else ((m_X6_goes o_n o_game (o_made + (1 : Int32))).bind fun u2 => some (((o_made + (1 : Int32)) - (1 : Int32)), (o_made + (1 : Int32)), u2.1, u2.2)))
set_option maxHeartbeats 4000000 in
set_option maxRecDepth 100000 in
theorem c_X6_again (l : Launch) (D : va_G) (C : Nat → ClassId) (sz : Nat) (a0 : Nat) (a1 : Nat) (a2 : Nat) (a3 : Nat) (a4 : Nat) (a5 : Nat) (a6 : Nat) (a7 : Nat) (a8 : Nat) (a9 : Nat) (a10 : Nat) (a11 : Nat) (a12 : Nat) (a13 : Nat) (a14 : Nat) (a15 : Nat) (o_n : Int32) (o_all : Int32) (o_made : Int32) (o_own0 : Int64) (o_own1 : Int64) (o_threatMany : Int32) (o_length : Int32) (o_holes : Int32) (o_tellings : Int32) (o_game : Nat → Int32) (o_near : Nat → Int64) (o_kept : Nat → Int32) (o_isKept : Nat → Int32) (o_threatOf : Nat → Int32) (o_threatSet : Nat → Int64) (o_text : Nat → Int32) (o_far : Nat → Int32) (o_back : Nat → Int32) (o_hole : Nat → Int32) (o_isWon : Nat → Int32) (o_won : Nat → Int32) (o_lasts : Nat → Int32) (o_power : Nat → Int32) (o_told : Nat → Int32) (o : Int32 × Int32 × Int64 × Int64) (hf : m_X6_again o_n o_all o_made o_own0 o_own1 o_game = some o) : Met l yX6_again (wl yX6_again cX6_again 1 (some .int)) R_X6_again (PW [.ref a0] D C sz (wX6 C a0 a1 a2 a3 a4 a5 a6 a7 a8 a9 a10 a11 a12 a13 a14 a15 o_n o_all o_made o_own0 o_own1 o_threatMany o_length o_holes o_tellings o_game o_near o_kept o_isKept o_threatOf o_threatSet o_text o_far o_back o_hole o_isWon o_won o_lasts o_power o_told) ([] : va_W)) (QWi D o.1 (wX6 C a0 a1 a2 a3 a4 a5 a6 a7 a8 a9 a10 a11 a12 a13 a14 a15 o_n o_all o.2.1 o.2.2.1 o.2.2.2 o_threatMany o_length o_holes o_tellings o_game o_near o_kept o_isKept o_threatOf o_threatSet o_text o_far o_back o_hole o_isWon o_won o_lasts o_power o_told) (va_A (wX6 C a0 a1 a2 a3 a4 a5 a6 a7 a8 a9 a10 a11 a12 a13 a14 a15 o_n o_all o_made o_own0 o_own1 o_threatMany o_length o_holes o_tellings o_game o_near o_kept o_isKept o_threatOf o_threatSet o_text o_far o_back o_hole o_isWon o_won o_lasts o_power o_told) sz)) 0 0 (va_A (wX6 C a0 a1 a2 a3 a4 a5 a6 a7 a8 a9 a10 a11 a12 a13 a14 a15 o_n o_all o_made o_own0 o_own1 o_threatMany o_length o_holes o_tellings o_game o_near o_kept o_isKept o_threatOf o_threatSet o_text o_far o_back o_hole o_isWon o_won o_lasts o_power o_told) sz) := by
  refine Met_ofC (by decide) ?_
  intro p e s m args below meth c hc hv
  obtain ⟨rfl, hsz, hP, hK, hD0, hO, hN0⟩ := hv
  subst hsz
  have hD := hD0.self (sz := s.heap.size)
  have hN : ∀ q ∈ ([] : va_W), ¬ va_A (wX6 C a0 a1 a2 a3 a4 a5 a6 a7 a8 a9 a10 a11 a12 a13 a14 a15 o_n o_all o_made o_own0 o_own1 o_threatMany o_length o_holes o_tellings o_game o_near o_kept o_isKept o_threatOf o_threatSet o_text o_far o_back o_hole o_isWon o_won o_lasts o_power o_told) s.heap.size q.1 := hN0
  generalize hAe : va_A (wX6 C a0 a1 a2 a3 a4 a5 a6 a7 a8 a9 a10 a11 a12 a13 a14 a15 o_n o_all o_made o_own0 o_own1 o_threatMany o_length o_holes o_tellings o_game o_near o_kept o_isKept o_threatOf o_threatSet o_text o_far o_back o_hole o_isWon o_won o_lasts o_power o_told) s.heap.size = A at hD hN ⊢
  have hA : ∀ q : Nat, s.heap.size ≤ q → A q := fun q h => by rw [← hAe]; exact Or.inr h
  have hS : va_S A s.heap s.heap [] := va_S.rf
  have hx := hc.1
  have hb := hc.2.1
  have hown := hc.2.2.2.2.1
  have hts := hc.2.2.2.2.2.1
  refine en_F rfl (fun ls hl => ?_)
  have hl : lv_has ls 1 [(0, .ref a0)] := hl
  refine lv_aload_n hx hb dX6_again_0 rfl (lv_at hl 0 rfl) ?_
  refine va_get (D := D) (ci := 6) (v := .int o_made) (C := RX6) (T := TX6) (N := 24) hx hb hts inX6 hown hK hP 0 rfl rfl 3 (by decide) (hts _ q_657) (fun _ h9 => h9) rfl dX6_again_1 ?_
  refine lv_aload_n hx hb dX6_again_4 rfl (lv_at hl 0 rfl) ?_
  refine va_get (D := D) (ci := 6) (v := .int o_all) (C := RX6) (T := TX6) (N := 24) hx hb hts inX6 hown hK hP 0 rfl rfl 2 (by decide) (hts _ q_656) (fun _ h9 => h9) rfl dX6_again_5 ?_
  refine lv_icmp_ne (tgt := 14) hx hb dX6_again_8 (by decide) (fun c1 => ?_) (fun c1 => ?_)
  · have hf := if_f hf c1
    refine lv_aload_n hx hb dX6_again_14 rfl (lv_at hl 0 rfl) ?_
    refine lv_dup hx hb dX6_again_15 rfl ?_
    refine va_get (D := D) (ci := 6) (v := .int o_made) (C := RX6) (T := TX6) (N := 24) hx hb hts inX6 hown hK hP 0 rfl rfl 3 (by decide) (hts _ q_657) (fun _ h9 => h9) rfl dX6_again_16 ?_
    refine lv_iconst (v := (1 : Int32)) hx hb dX6_again_19 (by decide) ?_
    refine lv_iadd hx hb dX6_again_20 ?_
    refine va_put (D := D) (ci := 6) (v := .int (o_made + (1 : Int32))) (ty := .int) (C := RX6) (T := TX6) (N := 24) hx hb hts inX6 tyX6 tyX6_ok nmX6 hown hK hP hD hS 0 rfl rfl 3 (by decide) (hts _ q_657) (fun _ h9 => h9) rfl (by decide +kernel) rfl rfl (Nat.le_of_ble_eq_true rfl) dX6_again_21 (fun H locs hP hD hS => ?_)
    have hP : va_P D vwCl (wX6 C a0 a1 a2 a3 a4 a5 a6 a7 a8 a9 a10 a11 a12 a13 a14 a15 o_n o_all (o_made + (1 : Int32)) o_own0 o_own1 o_threatMany o_length o_holes o_tellings o_game o_near o_kept o_isKept o_threatOf o_threatSet o_text o_far o_back o_hole o_isWon o_won o_lasts o_power o_told) H := hP
    have hD : va_D A (wX6 C a0 a1 a2 a3 a4 a5 a6 a7 a8 a9 a10 a11 a12 a13 a14 a15 o_n o_all (o_made + (1 : Int32)) o_own0 o_own1 o_threatMany o_length o_holes o_tellings o_game o_near o_kept o_isKept o_threatOf o_threatSet o_text o_far o_back o_hole o_isWon o_won o_lasts o_power o_told) := hD
    refine lv_aload_n hx hb dX6_again_24 rfl (lv_at hl 0 rfl) ?_
    refine lv_aload_n hx hb dX6_again_25 rfl (lv_at hl 0 rfl) ?_
    refine va_get (D := D) (ci := 6) (v := .int (o_made + (1 : Int32))) (C := RX6) (T := TX6) (N := 24) hx hb hts inX6 hown hK hP 0 rfl rfl 3 (by decide) (hts _ q_657) (fun _ h9 => h9) rfl dX6_again_26 ?_
    obtain ⟨u2, hu2, hf⟩ := bind_some hf
    refine wcVv (A := A) (wc := wX6 C a0 a1 a2 a3 a4 a5 a6 a7 a8 a9 a10 a11 a12 a13 a14 a15 o_n o_all (o_made + (1 : Int32)) o_own0 o_own1 o_threatMany o_length o_holes o_tellings o_game o_near o_kept o_isKept o_threatOf o_threatSet o_text o_far o_back o_hole o_isWon o_won o_lasts o_power o_told) (w1 := wX6 C a0 a1 a2 a3 a4 a5 a6 a7 a8 a9 a10 a11 a12 a13 a14 a15 o_n o_all (o_made + (1 : Int32)) u2.1 u2.2 o_threatMany o_length o_holes o_tellings o_game o_near o_kept o_isKept o_threatOf o_threatSet o_text o_far o_back o_hole o_isWon o_won o_lasts o_power o_told) (rc := []) (As := [.int (o_made + (1 : Int32))]) (rest := []) hc k_X6_115 (c_X6_goes l D C _ a0 a1 a2 a3 a4 a5 a6 a7 a8 a9 a10 a11 a12 a13 a14 a15 o_n o_all (o_made + (1 : Int32)) o_own0 o_own1 o_threatMany o_length o_holes o_tellings o_game o_near o_kept o_isKept o_threatOf o_threatSet o_text o_far o_back o_hole o_isWon o_won o_lasts o_power o_told (o_made + (1 : Int32))  _ hu2) ⟨rfl, rfl, Nat.le_of_ble_eq_true rfl, Nat.le_of_ble_eq_true rfl⟩ hP hD hS hA hK [0, 1, 2, 3, 4, 5, 6, 7, 8, 9, 10, 11, 12, 13, 14, 15] [] rfl rfl rfl rfl (by decide) (hP.sub [] rfl) Ap_nil (q0 := 0) rfl rfl rfl hl rfl rfl (Nat.le_of_ble_eq_true rfl) ⟨Nat.zero_le _, Nat.zero_le _⟩ dX6_again_29 (fun H locs hP hD hS => ?_)
    have hP : va_P D vwCl (wX6 C a0 a1 a2 a3 a4 a5 a6 a7 a8 a9 a10 a11 a12 a13 a14 a15 o_n o_all (o_made + (1 : Int32)) u2.1 u2.2 o_threatMany o_length o_holes o_tellings o_game o_near o_kept o_isKept o_threatOf o_threatSet o_text o_far o_back o_hole o_isWon o_won o_lasts o_power o_told) H := hP.sub [0, 1, 2, 3, 4, 5, 6, 7, 8, 9, 10, 11, 12, 13, 14, 15] rfl
    have hD : va_D A (wX6 C a0 a1 a2 a3 a4 a5 a6 a7 a8 a9 a10 a11 a12 a13 a14 a15 o_n o_all (o_made + (1 : Int32)) u2.1 u2.2 o_threatMany o_length o_holes o_tellings o_game o_near o_kept o_isKept o_threatOf o_threatSet o_text o_far o_back o_hole o_isWon o_won o_lasts o_power o_told) := hD.sub [0, 1, 2, 3, 4, 5, 6, 7, 8, 9, 10, 11, 12, 13, 14, 15] rfl rfl
    refine lv_aload_n hx hb dX6_again_32 rfl (lv_at hl 0 rfl) ?_
    refine va_get (D := D) (ci := 6) (v := .int (o_made + (1 : Int32))) (C := RX6) (T := TX6) (N := 24) hx hb hts inX6 hown hK hP 0 rfl rfl 3 (by decide) (hts _ q_657) (fun _ h9 => h9) rfl dX6_again_33 ?_
    refine lv_iconst (v := (1 : Int32)) hx hb dX6_again_36 (by decide) ?_
    refine lv_isub hx hb dX6_again_37 ?_
    have hf := Option.some.inj hf
    subst hf
    exact rWi hc rfl hP hD hS dX6_again_38
  · have hf := if_t hf c1
    refine lv_bipush (v := (-13 : Int32)) hx hb dX6_again_11 (by decide) ?_
    have hf := Option.some.inj hf
    subst hf
    exact rWi hc rfl hP hD hS dX6_again_13
abbrev R_X6_moves : Room := { frames := 0, cells := 0, slots := 0, locals := 0 }
def m_X6_moves (o_made : Int32) : Int32 := o_made
set_option maxHeartbeats 4000000 in
set_option maxRecDepth 100000 in
theorem c_X6_moves (l : Launch) (D : va_G) (C : Nat → ClassId) (z0 : Nat) (o_n : Int32) (r_o_game : Nat) (o_all : Int32) (o_made : Int32) (o_own0 : Int64) (o_own1 : Int64) (r_o_near : Nat) (r_o_kept : Nat) (r_o_isKept : Nat) (r_o_threatOf : Nat) (r_o_threatSet : Nat) (o_threatMany : Int32) (r_o_text : Nat) (o_length : Int32) (r_o_far : Nat) (r_o_back : Nat) (r_o_hole : Nat) (o_holes : Int32) (r_o_isWon : Nat) (r_o_won : Nat) (r_o_lasts : Nat) (r_o_power : Nat) (r_o_told : Nat) (o_tellings : Int32) (o : Int32) (hf : m_X6_moves o_made = o) : Met l yX6_moves (wl yX6_moves cX6_moves 1 (some .int)) R_X6_moves (PR [.ref z0] D C [cX6 z0 o_n r_o_game o_all o_made o_own0 o_own1 r_o_near r_o_kept r_o_isKept r_o_threatOf r_o_threatSet o_threatMany r_o_text o_length r_o_far r_o_back r_o_hole o_holes r_o_isWon r_o_won r_o_lasts r_o_power r_o_told o_tellings]) (vp_Si (fun r => r = o)) 0 0 (fun _ => False) := by
  refine Met_ofC (by decide) ?_
  intro p e s m args below meth c hc hv
  obtain ⟨rfl, hP, hK⟩ := hv
  have hx := hc.1
  have hb := hc.2.1
  have hown := hc.2.2.2.2.1
  have hts := hc.2.2.2.2.2.1
  refine en_F rfl (fun ls hl => ?_)
  have hl : lv_has ls 1 [(0, .ref z0)] := hl
  refine lv_aload_n hx hb dX6_moves_0 rfl (lv_at hl 0 rfl) ?_
  refine va_get (D := D) (ci := 6) (v := .int o_made) (C := RX6) (T := TX6) (N := 24) hx hb hts inX6 hown hK hP 0 rfl rfl 3 (by decide) (hts _ q_657) (fun _ h9 => h9) rfl dX6_moves_1 ?_
  exact rRi hc hf dX6_moves_4
abbrev R_X6_moveAt : Room := { frames := 1, cells := 0, slots := 0, locals := 22 }
def m_X6_moveAt (o_made : Int32) (o_game : Nat → Int32) (p1 : Int32) : Option (Int32) := (if (m_X6_in p1 (0 : Int32) (o_made - (1 : Int32))) = 0 then some (-11 : Int32) else (if okI p1 64 = true then some (o_game p1.toNatClampNeg) else none))
set_option maxHeartbeats 4000000 in
set_option maxRecDepth 100000 in
theorem c_X6_moveAt (l : Launch) (D : va_G) (C : Nat → ClassId) (z0 : Nat) (z1 : Nat) (o_n : Int32) (o_all : Int32) (o_made : Int32) (o_own0 : Int64) (o_own1 : Int64) (r_o_near : Nat) (r_o_kept : Nat) (r_o_isKept : Nat) (r_o_threatOf : Nat) (r_o_threatSet : Nat) (o_threatMany : Int32) (r_o_text : Nat) (o_length : Int32) (r_o_far : Nat) (r_o_back : Nat) (r_o_hole : Nat) (o_holes : Int32) (r_o_isWon : Nat) (r_o_won : Nat) (r_o_lasts : Nat) (r_o_power : Nat) (r_o_told : Nat) (o_tellings : Int32) (o_game : Nat → Int32) (p1 : Int32) (o : Int32) (hf : m_X6_moveAt o_made o_game p1 = some o) : Met l yX6_moveAt (wl yX6_moveAt cX6_moveAt 2 (some .int)) R_X6_moveAt (PR [.ref z0, .int p1] D C [cX6 z0 o_n z1 o_all o_made o_own0 o_own1 r_o_near r_o_kept r_o_isKept r_o_threatOf r_o_threatSet o_threatMany r_o_text o_length r_o_far r_o_back r_o_hole o_holes r_o_isWon r_o_won r_o_lasts r_o_power r_o_told o_tellings, aI C z1 64 o_game]) (vp_Si (fun r => r = o)) 0 0 (fun _ => False) := by
  refine Met_ofC (by decide) ?_
  intro p e s m args below meth c hc hv
  obtain ⟨rfl, hP, hK⟩ := hv
  have hx := hc.1
  have hb := hc.2.1
  have hown := hc.2.2.2.2.1
  have hts := hc.2.2.2.2.2.1
  refine en_F rfl (fun ls hl => ?_)
  have hl : lv_has ls 2 [(0, .ref z0), (1, .int p1)] := hl
  refine lv_iload_n hx hb dX6_moveAt_0 rfl (lv_at hl 1 rfl) ?_
  refine lv_iconst (v := (0 : Int32)) hx hb dX6_moveAt_1 (by decide) ?_
  refine lv_aload_n hx hb dX6_moveAt_2 rfl (lv_at hl 0 rfl) ?_
  refine va_get (D := D) (ci := 6) (v := .int o_made) (C := RX6) (T := TX6) (N := 24) hx hb hts inX6 hown hK hP 0 rfl rfl 3 (by decide) (hts _ q_657) (fun _ h9 => h9) rfl dX6_moveAt_3 ?_
  refine lv_iconst (v := (1 : Int32)) hx hb dX6_moveAt_6 (by decide) ?_
  refine lv_isub hx hb dX6_moveAt_7 ?_
  refine rcSi (As := [.int p1, .int (0 : Int32), .int (o_made - (1 : Int32))]) (rest := []) hc k_X6_64 (c_X6_in l D C p1 (0 : Int32) (o_made - (1 : Int32))  _ rfl) ⟨rfl, rfl, Nat.le_of_ble_eq_true rfl, Nat.le_of_ble_eq_true rfl⟩ (hP.sub [] rfl) hK hl rfl rfl (Nat.le_of_ble_eq_true rfl) ⟨Nat.zero_le _, Nat.zero_le _⟩ dX6_moveAt_8 ?_
  refine lv_if_eq (tgt := 23) hx hb dX6_moveAt_11 (by decide) (fun c1 => ?_) (fun c1 => ?_)
  · have hf := if_t hf c1
    refine lv_bipush (v := (-11 : Int32)) hx hb dX6_moveAt_23 (by decide) ?_
    exact rRi hc (Option.some.inj hf) dX6_moveAt_25
  · have hf := if_f hf c1
    refine lv_aload_n hx hb dX6_moveAt_14 rfl (lv_at hl 0 rfl) ?_
    refine va_get (D := D) (ci := 6) (v := .ref z1) (C := RX6) (T := TX6) (N := 24) hx hb hts inX6 hown hK hP 0 rfl rfl 1 (by decide) (hts _ q_655) (fun _ h9 => h9) rfl dX6_moveAt_15 ?_
    refine lv_iload_n hx hb dX6_moveAt_18 rfl (lv_at hl 1 rfl) ?_
    obtain ⟨h2, hf⟩ := ok_t hf
    refine va_iald hx hb hK hP 1 0 rfl rfl (okI_in h2) dX6_moveAt_19 ?_
    refine lv_goto (tgt := 25) hx hb dX6_moveAt_20 (by decide) ?_
    exact rRi hc (Option.some.inj hf) dX6_moveAt_25
abbrev R_X6_turn : Room := { frames := 0, cells := 0, slots := 0, locals := 0 }
def m_X6_turn (o_made : Int32) : Int32 := (jirem o_made (2 : Int32))
set_option maxHeartbeats 4000000 in
set_option maxRecDepth 100000 in
theorem c_X6_turn (l : Launch) (D : va_G) (C : Nat → ClassId) (z0 : Nat) (o_n : Int32) (r_o_game : Nat) (o_all : Int32) (o_made : Int32) (o_own0 : Int64) (o_own1 : Int64) (r_o_near : Nat) (r_o_kept : Nat) (r_o_isKept : Nat) (r_o_threatOf : Nat) (r_o_threatSet : Nat) (o_threatMany : Int32) (r_o_text : Nat) (o_length : Int32) (r_o_far : Nat) (r_o_back : Nat) (r_o_hole : Nat) (o_holes : Int32) (r_o_isWon : Nat) (r_o_won : Nat) (r_o_lasts : Nat) (r_o_power : Nat) (r_o_told : Nat) (o_tellings : Int32) (o : Int32) (hf : m_X6_turn o_made = o) : Met l yX6_turn (wl yX6_turn cX6_turn 1 (some .int)) R_X6_turn (PR [.ref z0] D C [cX6 z0 o_n r_o_game o_all o_made o_own0 o_own1 r_o_near r_o_kept r_o_isKept r_o_threatOf r_o_threatSet o_threatMany r_o_text o_length r_o_far r_o_back r_o_hole o_holes r_o_isWon r_o_won r_o_lasts r_o_power r_o_told o_tellings]) (vp_Si (fun r => r = o)) 0 0 (fun _ => False) := by
  refine Met_ofC (by decide) ?_
  intro p e s m args below meth c hc hv
  obtain ⟨rfl, hP, hK⟩ := hv
  have hx := hc.1
  have hb := hc.2.1
  have hown := hc.2.2.2.2.1
  have hts := hc.2.2.2.2.2.1
  refine en_F rfl (fun ls hl => ?_)
  have hl : lv_has ls 1 [(0, .ref z0)] := hl
  refine lv_aload_n hx hb dX6_turn_0 rfl (lv_at hl 0 rfl) ?_
  refine va_get (D := D) (ci := 6) (v := .int o_made) (C := RX6) (T := TX6) (N := 24) hx hb hts inX6 hown hK hP 0 rfl rfl 3 (by decide) (hts _ q_657) (fun _ h9 => h9) rfl dX6_turn_1 ?_
  refine lv_iconst (v := (2 : Int32)) hx hb dX6_turn_4 (by decide) ?_
  refine lv_irem hx hb dX6_turn_5 (by decide) ?_
  exact rRi hc hf dX6_turn_6

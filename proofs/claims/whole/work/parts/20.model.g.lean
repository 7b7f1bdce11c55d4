abbrev R_X6_checksum : Room := { frames := 6, cells := 0, slots := 0, locals := 156 }
def m_X6_checksum_c60 (o_n : Int32) (o_made : Int32) (o_own0 : Int64) (o_own1 : Int64) (o_threatMany : Int32) (o_game : Nat → Int32) (o_near : Nat → Int64) (o_threatOf : Nat → Int32) (o_threatSet : Nat → Int64)  : Nat → Int64 → Int32 → (Nat → Int32) → (Nat → Int32) → Option (Int64 × (Nat → Int32) × (Nat → Int32))
  | 0, _, _, _, _ => none
  | n + 1, v1, v3, o_far, o_back => (if (2 : Int32) ≤ v3 then ((m_X6_answersNow o_n o_made o_own0 o_own1 o_game o_near).bind fun u4 => some ((m_X6_more v1 u4), o_far, o_back)) else ((m_X6_chains o_n o_own0 o_own1 o_near v3).bind fun u5 => ((m_X6_distanceOf o_n o_own0 o_own1 o_near o_far v3).bind fun u6 => ((m_X6_shortestOf o_n o_own0 o_own1 o_near u6.2 o_back v3).bind fun u7 => ((m_X6_cut o_n o_own0 o_own1 o_near u7.2.1 v3).bind fun u8 => ((m_X6_bridges o_n o_own0 o_own1 o_near v3).bind fun u9 => (jlet (m_X6_more (m_X6_more (m_X6_more (m_X6_more (m_X6_more (m_X6_more v1 (m_X6_own o_own0 o_own1 v3)) u5.toInt64) u6.1.toInt64) u7.1) u8.1.toInt64) u9.toInt64) fun x10 => ((m_X6_threatsOf o_own0 o_own1 o_threatMany o_threatOf o_threatSet v3).bind fun u11 => ((m_X6_neededOf o_n o_own0 o_own1 o_threatMany o_threatOf o_threatSet v3).bind fun u12 => (m_X6_checksum_c60 o_n o_made o_own0 o_own1 o_threatMany o_game o_near o_threatOf o_threatSet  n (m_X6_more (m_X6_more x10 u11.toInt64) u12) (v3 + (1 : Int32)) u8.2 u7.2.2))))))))))
set_option maxHeartbeats 4000000 in
set_option maxRecDepth 100000 in
theorem w_X6_checksum_c60 {p : Program} {l : Launch} {e : Env} {s : State} {m : MethodId} {args : Array Value} {below : List Frame} {meth : Method} {c : Code} {D : va_G} {C : Nat → ClassId} {A : Nat → Prop} {a0 : Nat} {a1 : Nat} {a2 : Nat} {a3 : Nat} {a4 : Nat} {a5 : Nat} {a6 : Nat} {a7 : Nat} {a8 : Nat} {a9 : Nat} {a10 : Nat} {a11 : Nat} {a12 : Nat} {a13 : Nat} {a14 : Nat} {a15 : Nat} {o_n : Int32} {o_all : Int32} {o_made : Int32} {o_own0 : Int64} {o_own1 : Int64} {o_threatMany : Int32} {o_length : Int32} {o_holes : Int32} {o_tellings : Int32} {o_game : Nat → Int32} {o_near : Nat → Int64} {o_kept : Nat → Int32} {o_isKept : Nat → Int32} {o_threatOf : Nat → Int32} {o_threatSet : Nat → Int64} {o_text : Nat → Int32} {o_hole : Nat → Int32} {o_isWon : Nat → Int32} {o_won : Nat → Int32} {o_lasts : Nat → Int32} {o_power : Nat → Int32} {o_told : Nat → Int32} {o : Int64 × (Nat → Int32) × (Nat → Int32)} (hc : Cx p s m args meth c yX6_checksum cX6_checksum 4 (some .long)) (hK : va_K D vwCl (TY C) s) (hA : ∀ q : Nat, s.heap.size ≤ q → A q) (hO : va_P D vwCl ([] : va_W) s.heap) (hN : ∀ q ∈ ([] : va_W), ¬ A q.1) : ∀ (n : Nat), ∀ (v1 : Int64) (v3 : Int32) (o_far : Nat → Int32) (o_back : Nat → Int32), m_X6_checksum_c60 o_n o_made o_own0 o_own1 o_threatMany o_game o_near o_threatOf o_threatSet  n v1 v3 o_far o_back = some o → ∀ (H : Heap) (locs : List Loc), va_P D vwCl (wX6 C a0 a1 a2 a3 a4 a5 a6 a7 a8 a9 a10 a11 a12 a13 a14 a15 o_n o_all o_made o_own0 o_own1 o_threatMany o_length o_holes o_tellings o_game o_near o_kept o_isKept o_threatOf o_threatSet o_text o_far o_back o_hole o_isWon o_won o_lasts o_power o_told) H → va_D A (wX6 C a0 a1 a2 a3 a4 a5 a6 a7 a8 a9 a10 a11 a12 a13 a14 a15 o_n o_all o_made o_own0 o_own1 o_threatMany o_length o_holes o_tellings o_game o_near o_kept o_isKept o_threatOf o_threatSet o_text o_far o_back o_hole o_isWon o_won o_lasts o_power o_told) → va_S A s.heap H locs → ∀ (ls : Array Slot), lv_has ls 4 [(0, .ref a0), (1, .long v1), (3, .int v3)] → W p l e R_X6_checksum s m args below meth c H locs 0 0 (MQ below (QWl D o.1 (wX6 C a0 a1 a2 a3 a4 a5 a6 a7 a8 a9 a10 a11 a12 a13 a14 a15 o_n o_all o_made o_own0 o_own1 o_threatMany o_length o_holes o_tellings o_game o_near o_kept o_isKept o_threatOf o_threatSet o_text o.2.1 o.2.2 o_hole o_isWon o_won o_lasts o_power o_told) A) args s 0 0 A) (F0 m 60 ls []) := by
  have hx := hc.1
  have hb := hc.2.1
  have hown := hc.2.2.2.2.1
  have hts := hc.2.2.2.2.2.1
  intro n
  induction n with
  | zero =>
    intro v1 v3 o_far o_back hf
    exact no_some hf
  | succ n ih =>
    intro v1 v3 o_far o_back hf H locs hP hD hS ls hl
    refine lv_iload_n hx hb dX6_checksum_60 rfl (lv_at hl 2 rfl) ?_
    refine lv_iconst (v := (2 : Int32)) hx hb dX6_checksum_61 (by decide) ?_
    refine lv_icmp_ge (tgt := 146) hx hb dX6_checksum_62 (by decide) (fun c3 => ?_) (fun c3 => ?_)
    · have hf := if_t hf c3
      refine lv_lload_n hx hb dX6_checksum_146 rfl (lv_at hl 1 rfl) ?_
      refine lv_aload_n hx hb dX6_checksum_147 rfl (lv_at hl 0 rfl) ?_
      obtain ⟨u4, hu4, hf⟩ := bind_some hf
      refine rcVl (As := []) (rest := [.long v1]) hc k_X6_174 (c_X6_answersNow l D C a0 a1 a2 o_n o_all o_made o_own0 o_own1 a3 a4 a5 a6 o_threatMany a7 o_length a8 a9 a10 o_holes a11 a12 a13 a14 a15 o_tellings o_game o_near  _ hu4) ⟨rfl, rfl, Nat.le_of_ble_eq_true rfl, Nat.le_of_ble_eq_true rfl⟩ (hP.sub [0, 1, 2] rfl) hK (q0 := 0) rfl rfl rfl hl rfl rfl (Nat.le_of_ble_eq_true rfl) ⟨Nat.zero_le _, Nat.zero_le _⟩ dX6_checksum_148 ?_
      refine rcSl (As := [.long v1, .long u4]) (rest := []) hc k_X6_276 (c_X6_more l D C v1 u4  _ rfl) ⟨rfl, rfl, Nat.le_of_ble_eq_true rfl, Nat.le_of_ble_eq_true rfl⟩ (hP.sub [] rfl) hK hl rfl rfl (Nat.le_of_ble_eq_true rfl) ⟨Nat.zero_le _, Nat.zero_le _⟩ dX6_checksum_151 ?_
      have hf := Option.some.inj hf
      subst hf
      exact rWl hc rfl hP hD hS dX6_checksum_154
    · have hf := if_f hf c3
      refine lv_lload_n hx hb dX6_checksum_65 rfl (lv_at hl 1 rfl) ?_
      refine lv_aload_n hx hb dX6_checksum_66 rfl (lv_at hl 0 rfl) ?_
      refine lv_iload_n hx hb dX6_checksum_67 rfl (lv_at hl 2 rfl) ?_
      refine rcVl (As := [.int v3]) (rest := [.long v1]) hc k_X6_139 (c_X6_own l D C a0 o_n a1 o_all o_made o_own0 o_own1 a2 a3 a4 a5 a6 o_threatMany a7 o_length a8 a9 a10 o_holes a11 a12 a13 a14 a15 o_tellings v3  _ rfl) ⟨rfl, rfl, Nat.le_of_ble_eq_true rfl, Nat.le_of_ble_eq_true rfl⟩ (hP.sub [0] rfl) hK (q0 := 0) rfl rfl rfl hl rfl rfl (Nat.le_of_ble_eq_true rfl) ⟨Nat.zero_le _, Nat.zero_le _⟩ dX6_checksum_68 ?_
      refine rcSl (As := [.long v1, .long (m_X6_own o_own0 o_own1 v3)]) (rest := []) hc k_X6_276 (c_X6_more l D C v1 (m_X6_own o_own0 o_own1 v3)  _ rfl) ⟨rfl, rfl, Nat.le_of_ble_eq_true rfl, Nat.le_of_ble_eq_true rfl⟩ (hP.sub [] rfl) hK hl rfl rfl (Nat.le_of_ble_eq_true rfl) ⟨Nat.zero_le _, Nat.zero_le _⟩ dX6_checksum_71 ?_
      refine lv_aload_n hx hb dX6_checksum_74 rfl (lv_at hl 0 rfl) ?_
      refine lv_iload_n hx hb dX6_checksum_75 rfl (lv_at hl 2 rfl) ?_
      obtain ⟨u5, hu5, hf⟩ := bind_some hf
      refine rcVi (As := [.int v3]) (rest := [.long (m_X6_more v1 (m_X6_own o_own0 o_own1 v3))]) hc k_X6_279 (c_X6_chains l D C a0 a2 o_n a1 o_all o_made o_own0 o_own1 a3 a4 a5 a6 o_threatMany a7 o_length a8 a9 a10 o_holes a11 a12 a13 a14 a15 o_tellings o_near v3  _ hu5) ⟨rfl, rfl, Nat.le_of_ble_eq_true rfl, Nat.le_of_ble_eq_true rfl⟩ (hP.sub [0, 2] rfl) hK (q0 := 0) rfl rfl rfl hl rfl rfl (Nat.le_of_ble_eq_true rfl) ⟨Nat.zero_le _, Nat.zero_le _⟩ dX6_checksum_76 ?_
      refine lv_i2l (v := u5.toInt64) hx hb dX6_checksum_79 rfl ?_
      refine rcSl (As := [.long (m_X6_more v1 (m_X6_own o_own0 o_own1 v3)), .long u5.toInt64]) (rest := []) hc k_X6_276 (c_X6_more l D C (m_X6_more v1 (m_X6_own o_own0 o_own1 v3)) u5.toInt64  _ rfl) ⟨rfl, rfl, Nat.le_of_ble_eq_true rfl, Nat.le_of_ble_eq_true rfl⟩ (hP.sub [] rfl) hK hl rfl rfl (Nat.le_of_ble_eq_true rfl) ⟨Nat.zero_le _, Nat.zero_le _⟩ dX6_checksum_80 ?_
      refine lv_aload_n hx hb dX6_checksum_83 rfl (lv_at hl 0 rfl) ?_
      refine lv_iload_n hx hb dX6_checksum_84 rfl (lv_at hl 2 rfl) ?_
      obtain ⟨u6, hu6, hf⟩ := bind_some hf
      refine wcVi (A := A) (wc := wX6 C a0 a1 a2 a3 a4 a5 a6 a7 a8 a9 a10 a11 a12 a13 a14 a15 o_n o_all o_made o_own0 o_own1 o_threatMany o_length o_holes o_tellings o_game o_near o_kept o_isKept o_threatOf o_threatSet o_text o_far o_back o_hole o_isWon o_won o_lasts o_power o_told) (w1 := wX6 C a0 a1 a2 a3 a4 a5 a6 a7 a8 a9 a10 a11 a12 a13 a14 a15 o_n o_all o_made o_own0 o_own1 o_threatMany o_length o_holes o_tellings o_game o_near o_kept o_isKept o_threatOf o_threatSet o_text u6.2 o_back o_hole o_isWon o_won o_lasts o_power o_told) (rc := []) (As := [.int v3]) (rest := [.long (m_X6_more (m_X6_more v1 (m_X6_own o_own0 o_own1 v3)) u5.toInt64)]) hc k_X6_155 (c_X6_distanceOf l D C _ a0 a1 a2 a3 a4 a5 a6 a7 a8 a9 a10 a11 a12 a13 a14 a15 o_n o_all o_made o_own0 o_own1 o_threatMany o_length o_holes o_tellings o_game o_near o_kept o_isKept o_threatOf o_threatSet o_text o_far o_back o_hole o_isWon o_won o_lasts o_power o_told v3  _ hu6) ⟨rfl, rfl, Nat.le_of_ble_eq_true rfl, Nat.le_of_ble_eq_true rfl⟩ hP hD hS hA hK [0, 1, 2, 3, 4, 5, 6, 7, 8, 9, 10, 11, 12, 13, 14, 15] [] rfl rfl rfl rfl (by decide) (hP.sub [] rfl) Ap_nil (q0 := 0) rfl rfl rfl hl rfl rfl (Nat.le_of_ble_eq_true rfl) ⟨Nat.zero_le _, Nat.zero_le _⟩ dX6_checksum_85 (fun H locs hP hD hS => ?_)
      have hP : va_P D vwCl (wX6 C a0 a1 a2 a3 a4 a5 a6 a7 a8 a9 a10 a11 a12 a13 a14 a15 o_n o_all o_made o_own0 o_own1 o_threatMany o_length o_holes o_tellings o_game o_near o_kept o_isKept o_threatOf o_threatSet o_text u6.2 o_back o_hole o_isWon o_won o_lasts o_power o_told) H := hP.sub [0, 1, 2, 3, 4, 5, 6, 7, 8, 9, 10, 11, 12, 13, 14, 15] rfl
      have hD : va_D A (wX6 C a0 a1 a2 a3 a4 a5 a6 a7 a8 a9 a10 a11 a12 a13 a14 a15 o_n o_all o_made o_own0 o_own1 o_threatMany o_length o_holes o_tellings o_game o_near o_kept o_isKept o_threatOf o_threatSet o_text u6.2 o_back o_hole o_isWon o_won o_lasts o_power o_told) := hD.sub [0, 1, 2, 3, 4, 5, 6, 7, 8, 9, 10, 11, 12, 13, 14, 15] rfl rfl
      refine lv_i2l (v := u6.1.toInt64) hx hb dX6_checksum_88 rfl ?_
      refine rcSl (As := [.long (m_X6_more (m_X6_more v1 (m_X6_own o_own0 o_own1 v3)) u5.toInt64), .long u6.1.toInt64]) (rest := []) hc k_X6_276 (c_X6_more l D C (m_X6_more (m_X6_more v1 (m_X6_own o_own0 o_own1 v3)) u5.toInt64) u6.1.toInt64  _ rfl) ⟨rfl, rfl, Nat.le_of_ble_eq_true rfl, Nat.le_of_ble_eq_true rfl⟩ (hP.sub [] rfl) hK hl rfl rfl (Nat.le_of_ble_eq_true rfl) ⟨Nat.zero_le _, Nat.zero_le _⟩ dX6_checksum_89 ?_
      refine lv_lstore_n (lv' := [(1, .long (m_X6_more (m_X6_more (m_X6_more v1 (m_X6_own o_own0 o_own1 v3)) u5.toInt64) u6.1.toInt64)), (0, .ref a0), (3, .int v3)]) hx hb dX6_checksum_92 rfl hl (by decide) rfl (fun ls hl => ?_)
      refine lv_lload_n hx hb dX6_checksum_93 rfl (lv_at hl 0 rfl) ?_
      refine lv_aload_n hx hb dX6_checksum_94 rfl (lv_at hl 1 rfl) ?_
      refine lv_iload_n hx hb dX6_checksum_95 rfl (lv_at hl 2 rfl) ?_
      obtain ⟨u7, hu7, hf⟩ := bind_some hf
      refine wcVl (A := A) (wc := wX6 C a0 a1 a2 a3 a4 a5 a6 a7 a8 a9 a10 a11 a12 a13 a14 a15 o_n o_all o_made o_own0 o_own1 o_threatMany o_length o_holes o_tellings o_game o_near o_kept o_isKept o_threatOf o_threatSet o_text u6.2 o_back o_hole o_isWon o_won o_lasts o_power o_told) (w1 := wX6 C a0 a1 a2 a3 a4 a5 a6 a7 a8 a9 a10 a11 a12 a13 a14 a15 o_n o_all o_made o_own0 o_own1 o_threatMany o_length o_holes o_tellings o_game o_near o_kept o_isKept o_threatOf o_threatSet o_text u7.2.1 u7.2.2 o_hole o_isWon o_won o_lasts o_power o_told) (rc := []) (As := [.int v3]) (rest := [.long (m_X6_more (m_X6_more (m_X6_more v1 (m_X6_own o_own0 o_own1 v3)) u5.toInt64) u6.1.toInt64)]) hc k_X6_161 (c_X6_shortestOf l D C _ a0 a1 a2 a3 a4 a5 a6 a7 a8 a9 a10 a11 a12 a13 a14 a15 o_n o_all o_made o_own0 o_own1 o_threatMany o_length o_holes o_tellings o_game o_near o_kept o_isKept o_threatOf o_threatSet o_text u6.2 o_back o_hole o_isWon o_won o_lasts o_power o_told v3  _ hu7) ⟨rfl, rfl, Nat.le_of_ble_eq_true rfl, Nat.le_of_ble_eq_true rfl⟩ hP hD hS hA hK [0, 1, 2, 3, 4, 5, 6, 7, 8, 9, 10, 11, 12, 13, 14, 15] [] rfl rfl rfl rfl (by decide) (hP.sub [] rfl) Ap_nil (q0 := 0) rfl rfl rfl hl rfl rfl (Nat.le_of_ble_eq_true rfl) ⟨Nat.zero_le _, Nat.zero_le _⟩ dX6_checksum_96 (fun H locs hP hD hS => ?_)
      have hP : va_P D vwCl (wX6 C a0 a1 a2 a3 a4 a5 a6 a7 a8 a9 a10 a11 a12 a13 a14 a15 o_n o_all o_made o_own0 o_own1 o_threatMany o_length o_holes o_tellings o_game o_near o_kept o_isKept o_threatOf o_threatSet o_text u7.2.1 u7.2.2 o_hole o_isWon o_won o_lasts o_power o_told) H := hP.sub [0, 1, 2, 3, 4, 5, 6, 7, 8, 9, 10, 11, 12, 13, 14, 15] rfl
      have hD : va_D A (wX6 C a0 a1 a2 a3 a4 a5 a6 a7 a8 a9 a10 a11 a12 a13 a14 a15 o_n o_all o_made o_own0 o_own1 o_threatMany o_length o_holes o_tellings o_game o_near o_kept o_isKept o_threatOf o_threatSet o_text u7.2.1 u7.2.2 o_hole o_isWon o_won o_lasts o_power o_told) := hD.sub [0, 1, 2, 3, 4, 5, 6, 7, 8, 9, 10, 11, 12, 13, 14, 15] rfl rfl
      refine rcSl (As := [.long (m_X6_more (m_X6_more (m_X6_more v1 (m_X6_own o_own0 o_own1 v3)) u5.toInt64) u6.1.toInt64), .long u7.1]) (rest := []) hc k_X6_276 (c_X6_more l D C (m_X6_more (m_X6_more (m_X6_more v1 (m_X6_own o_own0 o_own1 v3)) u5.toInt64) u6.1.toInt64) u7.1  _ rfl) ⟨rfl, rfl, Nat.le_of_ble_eq_true rfl, Nat.le_of_ble_eq_true rfl⟩ (hP.sub [] rfl) hK hl rfl rfl (Nat.le_of_ble_eq_true rfl) ⟨Nat.zero_le _, Nat.zero_le _⟩ dX6_checksum_99 ?_
      refine lv_aload_n hx hb dX6_checksum_102 rfl (lv_at hl 1 rfl) ?_
      refine lv_iload_n hx hb dX6_checksum_103 rfl (lv_at hl 2 rfl) ?_
      obtain ⟨u8, hu8, hf⟩ := bind_some hf
      refine wcVi (A := A) (wc := wX6 C a0 a1 a2 a3 a4 a5 a6 a7 a8 a9 a10 a11 a12 a13 a14 a15 o_n o_all o_made o_own0 o_own1 o_threatMany o_length o_holes o_tellings o_game o_near o_kept o_isKept o_threatOf o_threatSet o_text u7.2.1 u7.2.2 o_hole o_isWon o_won o_lasts o_power o_told) (w1 := wX6 C a0 a1 a2 a3 a4 a5 a6 a7 a8 a9 a10 a11 a12 a13 a14 a15 o_n o_all o_made o_own0 o_own1 o_threatMany o_length o_holes o_tellings o_game o_near o_kept o_isKept o_threatOf o_threatSet o_text u8.2 u7.2.2 o_hole o_isWon o_won o_lasts o_power o_told) (rc := []) (As := [.int v3]) (rest := [.long (m_X6_more (m_X6_more (m_X6_more (m_X6_more v1 (m_X6_own o_own0 o_own1 v3)) u5.toInt64) u6.1.toInt64) u7.1)]) hc k_X6_282 (c_X6_cut l D C _ a0 a1 a2 a3 a4 a5 a6 a7 a8 a9 a10 a11 a12 a13 a14 a15 o_n o_all o_made o_own0 o_own1 o_threatMany o_length o_holes o_tellings o_game o_near o_kept o_isKept o_threatOf o_threatSet o_text u7.2.1 u7.2.2 o_hole o_isWon o_won o_lasts o_power o_told v3  _ hu8) ⟨rfl, rfl, Nat.le_of_ble_eq_true rfl, Nat.le_of_ble_eq_true rfl⟩ hP hD hS hA hK [0, 1, 2, 3, 4, 5, 6, 7, 8, 9, 10, 11, 12, 13, 14, 15] [] rfl rfl rfl rfl (by decide) (hP.sub [] rfl) Ap_nil (q0 := 0) rfl rfl rfl hl rfl rfl (Nat.le_of_ble_eq_true rfl) ⟨Nat.zero_le _, Nat.zero_le _⟩ dX6_checksum_104 (fun H locs hP hD hS => ?_)
      have hP : va_P D vwCl (wX6 C a0 a1 a2 a3 a4 a5 a6 a7 a8 a9 a10 a11 a12 a13 a14 a15 o_n o_all o_made o_own0 o_own1 o_threatMany o_length o_holes o_tellings o_game o_near o_kept o_isKept o_threatOf o_threatSet o_text u8.2 u7.2.2 o_hole o_isWon o_won o_lasts o_power o_told) H := hP.sub [0, 1, 2, 3, 4, 5, 6, 7, 8, 9, 10, 11, 12, 13, 14, 15] rfl
      have hD : va_D A (wX6 C a0 a1 a2 a3 a4 a5 a6 a7 a8 a9 a10 a11 a12 a13 a14 a15 o_n o_all o_made o_own0 o_own1 o_threatMany o_length o_holes o_tellings o_game o_near o_kept o_isKept o_threatOf o_threatSet o_text u8.2 u7.2.2 o_hole o_isWon o_won o_lasts o_power o_told) := hD.sub [0, 1, 2, 3, 4, 5, 6, 7, 8, 9, 10, 11, 12, 13, 14, 15] rfl rfl
      refine lv_i2l (v := u8.1.toInt64) hx hb dX6_checksum_107 rfl ?_
      refine rcSl (As := [.long (m_X6_more (m_X6_more (m_X6_more (m_X6_more v1 (m_X6_own o_own0 o_own1 v3)) u5.toInt64) u6.1.toInt64) u7.1), .long u8.1.toInt64]) (rest := []) hc k_X6_276 (c_X6_more l D C (m_X6_more (m_X6_more (m_X6_more (m_X6_more v1 (m_X6_own o_own0 o_own1 v3)) u5.toInt64) u6.1.toInt64) u7.1) u8.1.toInt64  _ rfl) ⟨rfl, rfl, Nat.le_of_ble_eq_true rfl, Nat.le_of_ble_eq_true rfl⟩ (hP.sub [] rfl) hK hl rfl rfl (Nat.le_of_ble_eq_true rfl) ⟨Nat.zero_le _, Nat.zero_le _⟩ dX6_checksum_108 ?_
      refine lv_aload_n hx hb dX6_checksum_111 rfl (lv_at hl 1 rfl) ?_
      refine lv_iload_n hx hb dX6_checksum_112 rfl (lv_at hl 2 rfl) ?_
      obtain ⟨u9, hu9, hf⟩ := bind_some hf
      refine rcVi (As := [.int v3]) (rest := [.long (m_X6_more (m_X6_more (m_X6_more (m_X6_more (m_X6_more v1 (m_X6_own o_own0 o_own1 v3)) u5.toInt64) u6.1.toInt64) u7.1) u8.1.toInt64)]) hc k_X6_171 (c_X6_bridges l D C a0 a2 o_n a1 o_all o_made o_own0 o_own1 a3 a4 a5 a6 o_threatMany a7 o_length a8 a9 a10 o_holes a11 a12 a13 a14 a15 o_tellings o_near v3  _ hu9) ⟨rfl, rfl, Nat.le_of_ble_eq_true rfl, Nat.le_of_ble_eq_true rfl⟩ (hP.sub [0, 2] rfl) hK (q0 := 0) rfl rfl rfl hl rfl rfl (Nat.le_of_ble_eq_true rfl) ⟨Nat.zero_le _, Nat.zero_le _⟩ dX6_checksum_113 ?_
      refine lv_i2l (v := u9.toInt64) hx hb dX6_checksum_116 rfl ?_
      refine rcSl (As := [.long (m_X6_more (m_X6_more (m_X6_more (m_X6_more (m_X6_more v1 (m_X6_own o_own0 o_own1 v3)) u5.toInt64) u6.1.toInt64) u7.1) u8.1.toInt64), .long u9.toInt64]) (rest := []) hc k_X6_276 (c_X6_more l D C (m_X6_more (m_X6_more (m_X6_more (m_X6_more (m_X6_more v1 (m_X6_own o_own0 o_own1 v3)) u5.toInt64) u6.1.toInt64) u7.1) u8.1.toInt64) u9.toInt64  _ rfl) ⟨rfl, rfl, Nat.le_of_ble_eq_true rfl, Nat.le_of_ble_eq_true rfl⟩ (hP.sub [] rfl) hK hl rfl rfl (Nat.le_of_ble_eq_true rfl) ⟨Nat.zero_le _, Nat.zero_le _⟩ dX6_checksum_117 ?_
      refine lv_topl (fun x10 ex10 => ?_)
      have hf := jlet_t hf ex10
      refine lv_lstore_n (lv' := [(1, .long x10), (0, .ref a0), (3, .int v3)]) hx hb dX6_checksum_120 rfl hl (by decide) rfl (fun ls hl => ?_)
      refine lv_lload_n hx hb dX6_checksum_121 rfl (lv_at hl 0 rfl) ?_
      refine lv_aload_n hx hb dX6_checksum_122 rfl (lv_at hl 1 rfl) ?_
      refine lv_iload_n hx hb dX6_checksum_123 rfl (lv_at hl 2 rfl) ?_
      obtain ⟨u11, hu11, hf⟩ := bind_some hf
      refine rcVi (As := [.int v3]) (rest := [.long x10]) hc k_X6_242 (c_X6_threatsOf l D C a0 a5 a6 o_n a1 o_all o_made o_own0 o_own1 a2 a3 a4 o_threatMany a7 o_length a8 a9 a10 o_holes a11 a12 a13 a14 a15 o_tellings o_threatOf o_threatSet v3  _ hu11) ⟨rfl, rfl, Nat.le_of_ble_eq_true rfl, Nat.le_of_ble_eq_true rfl⟩ (hP.sub [0, 5, 6] rfl) hK (q0 := 0) rfl rfl rfl hl rfl rfl (Nat.le_of_ble_eq_true rfl) ⟨Nat.zero_le _, Nat.zero_le _⟩ dX6_checksum_124 ?_
      refine lv_i2l (v := u11.toInt64) hx hb dX6_checksum_127 rfl ?_
      refine rcSl (As := [.long x10, .long u11.toInt64]) (rest := []) hc k_X6_276 (c_X6_more l D C x10 u11.toInt64  _ rfl) ⟨rfl, rfl, Nat.le_of_ble_eq_true rfl, Nat.le_of_ble_eq_true rfl⟩ (hP.sub [] rfl) hK hl rfl rfl (Nat.le_of_ble_eq_true rfl) ⟨Nat.zero_le _, Nat.zero_le _⟩ dX6_checksum_128 ?_
      refine lv_aload_n hx hb dX6_checksum_131 rfl (lv_at hl 1 rfl) ?_
      refine lv_iload_n hx hb dX6_checksum_132 rfl (lv_at hl 2 rfl) ?_
      obtain ⟨u12, hu12, hf⟩ := bind_some hf
      refine rcVl (As := [.int v3]) (rest := [.long (m_X6_more x10 u11.toInt64)]) hc k_X6_245 (c_X6_neededOf l D C a0 a5 a6 o_n a1 o_all o_made o_own0 o_own1 a2 a3 a4 o_threatMany a7 o_length a8 a9 a10 o_holes a11 a12 a13 a14 a15 o_tellings o_threatOf o_threatSet v3  _ hu12) ⟨rfl, rfl, Nat.le_of_ble_eq_true rfl, Nat.le_of_ble_eq_true rfl⟩ (hP.sub [0, 5, 6] rfl) hK (q0 := 0) rfl rfl rfl hl rfl rfl (Nat.le_of_ble_eq_true rfl) ⟨Nat.zero_le _, Nat.zero_le _⟩ dX6_checksum_133 ?_
      refine rcSl (As := [.long (m_X6_more x10 u11.toInt64), .long u12]) (rest := []) hc k_X6_276 (c_X6_more l D C (m_X6_more x10 u11.toInt64) u12  _ rfl) ⟨rfl, rfl, Nat.le_of_ble_eq_true rfl, Nat.le_of_ble_eq_true rfl⟩ (hP.sub [] rfl) hK hl rfl rfl (Nat.le_of_ble_eq_true rfl) ⟨Nat.zero_le _, Nat.zero_le _⟩ dX6_checksum_136 ?_
      refine lv_lstore_n (lv' := [(1, .long (m_X6_more (m_X6_more x10 u11.toInt64) u12)), (0, .ref a0), (3, .int v3)]) hx hb dX6_checksum_139 rfl hl (by decide) rfl (fun ls hl => ?_)
      refine lv_iinc (v := (v3 + (1 : Int32))) (lv' := [(3, .int (v3 + (1 : Int32))), (1, .long (m_X6_more (m_X6_more x10 u11.toInt64) u12)), (0, .ref a0)]) hx hb dX6_checksum_140 hl (k := 2) rfl rfl (by decide) rfl (fun ls hl => ?_)
      refine lv_goto (tgt := 60) hx hb dX6_checksum_143 (by decide) ?_
      exact ih (m_X6_more (m_X6_more x10 u11.toInt64) u12) (v3 + (1 : Int32)) u8.2 u7.2.2 hf _ _ hP hD hS ls (lv_sub hl [2, 1, 0] rfl)
def m_X6_checksum_c22 (o_n : Int32) (o_made : Int32) (o_own0 : Int64) (o_own1 : Int64) (o_threatMany : Int32) (o_game : Nat → Int32) (o_near : Nat → Int64) (o_threatOf : Nat → Int32) (o_threatSet : Nat → Int64)  : Nat → Int64 → Int32 → (Nat → Int32) → (Nat → Int32) → Option (Int64 × (Nat → Int32) × (Nat → Int32))
  | 0, _, _, _, _ => none
  | n + 1, v1, v3, o_far, o_back => (if o_made ≤ v3 then ((m_X6_winnerNow o_n o_own0 o_own1 o_near).bind fun u2 => (m_X6_checksum_c60 o_n o_made o_own0 o_own1 o_threatMany o_game o_near o_threatOf o_threatSet FU (m_X6_more v1 u2.toInt64) (0 : Int32) o_far o_back)) else (if okI v3 64 = true then (m_X6_checksum_c22 o_n o_made o_own0 o_own1 o_threatMany o_game o_near o_threatOf o_threatSet  n (m_X6_more v1 ((o_game v3.toNatClampNeg).toInt64)) (v3 + (1 : Int32)) o_far o_back) else none))
set_option maxHeartbeats 4000000 in
set_option maxRecDepth 100000 in
theorem w_X6_checksum_c22 {p : Program} {l : Launch} {e : Env} {s : State} {m : MethodId} {args : Array Value} {below : List Frame} {meth : Method} {c : Code} {D : va_G} {C : Nat → ClassId} {A : Nat → Prop} {a0 : Nat} {a1 : Nat} {a2 : Nat} {a3 : Nat} {a4 : Nat} {a5 : Nat} {a6 : Nat} {a7 : Nat} {a8 : Nat} {a9 : Nat} {a10 : Nat} {a11 : Nat} {a12 : Nat} {a13 : Nat} {a14 : Nat} {a15 : Nat} {o_n : Int32} {o_all : Int32} {o_made : Int32} {o_own0 : Int64} {o_own1 : Int64} {o_threatMany : Int32} {o_length : Int32} {o_holes : Int32} {o_tellings : Int32} {o_game : Nat → Int32} {o_near : Nat → Int64} {o_kept : Nat → Int32} {o_isKept : Nat → Int32} {o_threatOf : Nat → Int32} {o_threatSet : Nat → Int64} {o_text : Nat → Int32} {o_hole : Nat → Int32} {o_isWon : Nat → Int32} {o_won : Nat → Int32} {o_lasts : Nat → Int32} {o_power : Nat → Int32} {o_told : Nat → Int32} {o : Int64 × (Nat → Int32) × (Nat → Int32)} (hc : Cx p s m args meth c yX6_checksum cX6_checksum 4 (some .long)) (hK : va_K D vwCl (TY C) s) (hA : ∀ q : Nat, s.heap.size ≤ q → A q) (hO : va_P D vwCl ([] : va_W) s.heap) (hN : ∀ q ∈ ([] : va_W), ¬ A q.1) : ∀ (n : Nat), ∀ (v1 : Int64) (v3 : Int32) (o_far : Nat → Int32) (o_back : Nat → Int32), m_X6_checksum_c22 o_n o_made o_own0 o_own1 o_threatMany o_game o_near o_threatOf o_threatSet  n v1 v3 o_far o_back = some o → ∀ (H : Heap) (locs : List Loc), va_P D vwCl (wX6 C a0 a1 a2 a3 a4 a5 a6 a7 a8 a9 a10 a11 a12 a13 a14 a15 o_n o_all o_made o_own0 o_own1 o_threatMany o_length o_holes o_tellings o_game o_near o_kept o_isKept o_threatOf o_threatSet o_text o_far o_back o_hole o_isWon o_won o_lasts o_power o_told) H → va_D A (wX6 C a0 a1 a2 a3 a4 a5 a6 a7 a8 a9 a10 a11 a12 a13 a14 a15 o_n o_all o_made o_own0 o_own1 o_threatMany o_length o_holes o_tellings o_game o_near o_kept o_isKept o_threatOf o_threatSet o_text o_far o_back o_hole o_isWon o_won o_lasts o_power o_told) → va_S A s.heap H locs → ∀ (ls : Array Slot), lv_has ls 4 [(0, .ref a0), (1, .long v1), (3, .int v3)] → W p l e R_X6_checksum s m args below meth c H locs 0 0 (MQ below (QWl D o.1 (wX6 C a0 a1 a2 a3 a4 a5 a6 a7 a8 a9 a10 a11 a12 a13 a14 a15 o_n o_all o_made o_own0 o_own1 o_threatMany o_length o_holes o_tellings o_game o_near o_kept o_isKept o_threatOf o_threatSet o_text o.2.1 o.2.2 o_hole o_isWon o_won o_lasts o_power o_told) A) args s 0 0 A) (F0 m 22 ls []) := by
  have hx := hc.1
  have hb := hc.2.1
  have hown := hc.2.2.2.2.1
  have hts := hc.2.2.2.2.2.1
  intro n
  induction n with
  | zero =>
    intro v1 v3 o_far o_back hf
    exact no_some hf
  | succ n ih =>
    intro v1 v3 o_far o_back hf H locs hP hD hS ls hl
    refine lv_iload_n hx hb dX6_checksum_22 rfl (lv_at hl 2 rfl) ?_
    refine lv_aload_n hx hb dX6_checksum_23 rfl (lv_at hl 0 rfl) ?_
    refine va_get (D := D) (ci := 6) (v := .int o_made) (C := RX6) (T := TX6) (N := 24) hx hb hts inX6 hown hK hP 0 rfl rfl 3 (by decide) (hts _ q_657) (fun _ h9 => h9) rfl dX6_checksum_24 ?_
    refine lv_icmp_ge (tgt := 48) hx hb dX6_checksum_27 (by decide) (fun c1 => ?_) (fun c1 => ?_)
    · have hf := if_t hf c1
      refine lv_lload_n hx hb dX6_checksum_48 rfl (lv_at hl 1 rfl) ?_
      refine lv_aload_n hx hb dX6_checksum_49 rfl (lv_at hl 0 rfl) ?_
      obtain ⟨u2, hu2, hf⟩ := bind_some hf
      refine rcVi (As := []) (rest := [.long v1]) hc k_X6_129 (c_X6_winnerNow l D C a0 a2 o_n a1 o_all o_made o_own0 o_own1 a3 a4 a5 a6 o_threatMany a7 o_length a8 a9 a10 o_holes a11 a12 a13 a14 a15 o_tellings o_near  _ hu2) ⟨rfl, rfl, Nat.le_of_ble_eq_true rfl, Nat.le_of_ble_eq_true rfl⟩ (hP.sub [0, 2] rfl) hK (q0 := 0) rfl rfl rfl hl rfl rfl (Nat.le_of_ble_eq_true rfl) ⟨Nat.zero_le _, Nat.zero_le _⟩ dX6_checksum_50 ?_
      refine lv_i2l (v := u2.toInt64) hx hb dX6_checksum_53 rfl ?_
      refine rcSl (As := [.long v1, .long u2.toInt64]) (rest := []) hc k_X6_276 (c_X6_more l D C v1 u2.toInt64  _ rfl) ⟨rfl, rfl, Nat.le_of_ble_eq_true rfl, Nat.le_of_ble_eq_true rfl⟩ (hP.sub [] rfl) hK hl rfl rfl (Nat.le_of_ble_eq_true rfl) ⟨Nat.zero_le _, Nat.zero_le _⟩ dX6_checksum_54 ?_
      refine lv_lstore_n (lv' := [(1, .long (m_X6_more v1 u2.toInt64)), (0, .ref a0), (3, .int v3)]) hx hb dX6_checksum_57 rfl hl (by decide) rfl (fun ls hl => ?_)
      refine lv_iconst (v := (0 : Int32)) hx hb dX6_checksum_58 (by decide) ?_
      refine lv_istore_n (lv' := [(3, .int (0 : Int32)), (1, .long (m_X6_more v1 u2.toInt64)), (0, .ref a0)]) hx hb dX6_checksum_59 rfl hl (by decide) rfl (fun ls hl => ?_)
      exact w_X6_checksum_c60 hc hK hA hO hN  FU (m_X6_more v1 u2.toInt64) (0 : Int32) o_far o_back hf _ _ hP hD hS ls (lv_sub hl [2, 1, 0] rfl)
    · have hf := if_f hf c1
      refine lv_lload_n hx hb dX6_checksum_30 rfl (lv_at hl 1 rfl) ?_
      refine lv_aload_n hx hb dX6_checksum_31 rfl (lv_at hl 0 rfl) ?_
      refine va_get (D := D) (ci := 6) (v := .ref a1) (C := RX6) (T := TX6) (N := 24) hx hb hts inX6 hown hK hP 0 rfl rfl 1 (by decide) (hts _ q_655) (fun _ h9 => h9) rfl dX6_checksum_32 ?_
      refine lv_iload_n hx hb dX6_checksum_35 rfl (lv_at hl 2 rfl) ?_
      obtain ⟨h13, hf⟩ := ok_t hf
      refine va_iald hx hb hK hP 1 0 rfl rfl (okI_in h13) dX6_checksum_36 ?_
      refine lv_i2l (v := (o_game v3.toNatClampNeg).toInt64) hx hb dX6_checksum_37 rfl ?_
      refine rcSl (As := [.long v1, .long ((o_game v3.toNatClampNeg).toInt64)]) (rest := []) hc k_X6_276 (c_X6_more l D C v1 ((o_game v3.toNatClampNeg).toInt64)  _ rfl) ⟨rfl, rfl, Nat.le_of_ble_eq_true rfl, Nat.le_of_ble_eq_true rfl⟩ (hP.sub [] rfl) hK hl rfl rfl (Nat.le_of_ble_eq_true rfl) ⟨Nat.zero_le _, Nat.zero_le _⟩ dX6_checksum_38 ?_
      refine lv_lstore_n (lv' := [(1, .long (m_X6_more v1 ((o_game v3.toNatClampNeg).toInt64))), (0, .ref a0), (3, .int v3)]) hx hb dX6_checksum_41 rfl hl (by decide) rfl (fun ls hl => ?_)
      refine lv_iinc (v := (v3 + (1 : Int32))) (lv' := [(3, .int (v3 + (1 : Int32))), (1, .long (m_X6_more v1 ((o_game v3.toNatClampNeg).toInt64))), (0, .ref a0)]) hx hb dX6_checksum_42 hl (k := 2) rfl rfl (by decide) rfl (fun ls hl => ?_)
      refine lv_goto (tgt := 22) hx hb dX6_checksum_45 (by decide) ?_
      exact ih (m_X6_more v1 ((o_game v3.toNatClampNeg).toInt64)) (v3 + (1 : Int32)) o_far o_back hf _ _ hP hD hS ls (lv_sub hl [2, 1, 0] rfl)
def m_X6_checksum (o_n : Int32) (o_made : Int32) (o_own0 : Int64) (o_own1 : Int64) (o_threatMany : Int32) (o_game : Nat → Int32) (o_near : Nat → Int64) (o_threatOf : Nat → Int32) (o_threatSet : Nat → Int64) (o_far : Nat → Int32) (o_back : Nat → Int32) : Option (Int64 × (Nat → Int32) × (Nat → Int32)) := (m_X6_checksum_c22 o_n o_made o_own0 o_own1 o_threatMany o_game o_near o_threatOf o_threatSet FU (m_X6_more (m_X6_more (37 : Int64) o_n.toInt64) o_made.toInt64) (0 : Int32) o_far o_back)
set_option maxHeartbeats 4000000 in
set_option maxRecDepth 100000 in
theorem c_X6_checksum (l : Launch) (D : va_G) (C : Nat → ClassId) (sz : Nat) (a0 : Nat) (a1 : Nat) (a2 : Nat) (a3 : Nat) (a4 : Nat) (a5 : Nat) (a6 : Nat) (a7 : Nat) (a8 : Nat) (a9 : Nat) (a10 : Nat) (a11 : Nat) (a12 : Nat) (a13 : Nat) (a14 : Nat) (a15 : Nat) (o_n : Int32) (o_all : Int32) (o_made : Int32) (o_own0 : Int64) (o_own1 : Int64) (o_threatMany : Int32) (o_length : Int32) (o_holes : Int32) (o_tellings : Int32) (o_game : Nat → Int32) (o_near : Nat → Int64) (o_kept : Nat → Int32) (o_isKept : Nat → Int32) (o_threatOf : Nat → Int32) (o_threatSet : Nat → Int64) (o_text : Nat → Int32) (o_far : Nat → Int32) (o_back : Nat → Int32) (o_hole : Nat → Int32) (o_isWon : Nat → Int32) (o_won : Nat → Int32) (o_lasts : Nat → Int32) (o_power : Nat → Int32) (o_told : Nat → Int32) (o : Int64 × (Nat → Int32) × (Nat → Int32)) (hf : m_X6_checksum o_n o_made o_own0 o_own1 o_threatMany o_game o_near o_threatOf o_threatSet o_far o_back = some o) : Met l yX6_checksum (wl yX6_checksum cX6_checksum 4 (some .long)) R_X6_checksum (PW [.ref a0] D C sz (wX6 C a0 a1 a2 a3 a4 a5 a6 a7 a8 a9 a10 a11 a12 a13 a14 a15 o_n o_all o_made o_own0 o_own1 o_threatMany o_length o_holes o_tellings o_game o_near o_kept o_isKept o_threatOf o_threatSet o_text o_far o_back o_hole o_isWon o_won o_lasts o_power o_told) ([] : va_W)) (QWl D o.1 (wX6 C a0 a1 a2 a3 a4 a5 a6 a7 a8 a9 a10 a11 a12 a13 a14 a15 o_n o_all o_made o_own0 o_own1 o_threatMany o_length o_holes o_tellings o_game o_near o_kept o_isKept o_threatOf o_threatSet o_text o.2.1 o.2.2 o_hole o_isWon o_won o_lasts o_power o_told) (va_A (wX6 C a0 a1 a2 a3 a4 a5 a6 a7 a8 a9 a10 a11 a12 a13 a14 a15 o_n o_all o_made o_own0 o_own1 o_threatMany o_length o_holes o_tellings o_game o_near o_kept o_isKept o_threatOf o_threatSet o_text o_far o_back o_hole o_isWon o_won o_lasts o_power o_told) sz)) 0 0 (va_A (wX6 C a0 a1 a2 a3 a4 a5 a6 a7 a8 a9 a10 a11 a12 a13 a14 a15 o_n o_all o_made o_own0 o_own1 o_threatMany o_length o_holes o_tellings o_game o_near o_kept o_isKept o_threatOf o_threatSet o_text o_far o_back o_hole o_isWon o_won o_lasts o_power o_told) sz) := by
  refine Met_ofC (by decide) ?_
  intro p e s m args below meth c hc hv
  obtain ⟨rfl, hsz, hP, hK, hD0, hO, hN0⟩ := hv
  subst hsz
  have hD := hD0.self (sz := s.heap.size)
  have hN : ∀ q ∈ ([] : va_W), ¬ va_A (wX6 C a0 a1 a2 a3 a4 a5 a6 a7 a8 a9 a10 a11 a12 a13 a14 a15 o_n o_all o_made o_own0 o_own1 o_threatMany o_length o_holes o_tellings o_game o_near o_kept o_isKept o_threatOf o_threatSet o_text o_far o_back o_hole o_isWon o_won o_lasts o_power o_told) s.heap.size q.1 := hN0
  generalize hAe : va_A (wX6 C a0 a1 a2 a3 a4 a5 a6 a7 a8 a9 a10 a11 a12 a13 a14 a15 o_n o_all o_made o_own0 o_own1 o_threatMany o_length o_holes o_tellings o_game o_near o_kept o_isKept o_threatOf o_threatSet o_text o_far o_back o_hole o_isWon o_won o_lasts o_power o_told) s.heap.size = A at hD hN ⊢
  have hA : ∀ q : Nat, s.heap.size ≤ q → A q := fun q h => by rw [← hAe]; exact Or.inr h
  have hS : va_S A s.heap s.heap [] := va_S.rf
  have hx := hc.1
  have hb := hc.2.1
  have hown := hc.2.2.2.2.1
  have hts := hc.2.2.2.2.2.1
  refine en_F rfl (fun ls hl => ?_)
  have hl : lv_has ls 4 [(0, .ref a0)] := hl
  refine lv_ldc2 (v := (37 : Int64)) hx hb hown (hts _ q_1077) dX6_checksum_0 ?_
  refine lv_aload_n hx hb dX6_checksum_3 rfl (lv_at hl 0 rfl) ?_
  refine va_get (D := D) (ci := 6) (v := .int o_n) (C := RX6) (T := TX6) (N := 24) hx hb hts inX6 hown hK hP 0 rfl rfl 0 (by decide) (hts _ q_654) (fun _ h9 => h9) rfl dX6_checksum_4 ?_
  refine lv_i2l (v := o_n.toInt64) hx hb dX6_checksum_7 rfl ?_
  refine rcSl (As := [.long (37 : Int64), .long o_n.toInt64]) (rest := []) hc k_X6_276 (c_X6_more l D C (37 : Int64) o_n.toInt64  _ rfl) ⟨rfl, rfl, Nat.le_of_ble_eq_true rfl, Nat.le_of_ble_eq_true rfl⟩ (hP.sub [] rfl) hK hl rfl rfl (Nat.le_of_ble_eq_true rfl) ⟨Nat.zero_le _, Nat.zero_le _⟩ dX6_checksum_8 ?_
  refine lv_aload_n hx hb dX6_checksum_11 rfl (lv_at hl 0 rfl) ?_
  refine va_get (D := D) (ci := 6) (v := .int o_made) (C := RX6) (T := TX6) (N := 24) hx hb hts inX6 hown hK hP 0 rfl rfl 3 (by decide) (hts _ q_657) (fun _ h9 => h9) rfl dX6_checksum_12 ?_
  refine lv_i2l (v := o_made.toInt64) hx hb dX6_checksum_15 rfl ?_
  refine rcSl (As := [.long (m_X6_more (37 : Int64) o_n.toInt64), .long o_made.toInt64]) (rest := []) hc k_X6_276 (c_X6_more l D C (m_X6_more (37 : Int64) o_n.toInt64) o_made.toInt64  _ rfl) ⟨rfl, rfl, Nat.le_of_ble_eq_true rfl, Nat.le_of_ble_eq_true rfl⟩ (hP.sub [] rfl) hK hl rfl rfl (Nat.le_of_ble_eq_true rfl) ⟨Nat.zero_le _, Nat.zero_le _⟩ dX6_checksum_16 ?_
  refine lv_lstore_n (lv' := [(1, .long (m_X6_more (m_X6_more (37 : Int64) o_n.toInt64) o_made.toInt64)), (0, .ref a0)]) hx hb dX6_checksum_19 rfl hl (by decide) rfl (fun ls hl => ?_)
  refine lv_iconst (v := (0 : Int32)) hx hb dX6_checksum_20 (by decide) ?_
  refine lv_istore_n (lv' := [(3, .int (0 : Int32)), (1, .long (m_X6_more (m_X6_more (37 : Int64) o_n.toInt64) o_made.toInt64)), (0, .ref a0)]) hx hb dX6_checksum_21 rfl hl (by decide) rfl (fun ls hl => ?_)
  exact w_X6_checksum_c22 hc hK hA hO hN  FU (m_X6_more (m_X6_more (37 : Int64) o_n.toInt64) o_made.toInt64) (0 : Int32) o_far o_back hf _ _ hP hD hS ls (lv_sub hl [2, 1, 0] rfl)

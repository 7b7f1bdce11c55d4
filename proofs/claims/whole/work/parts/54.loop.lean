def S_init (Inv : SX → BF → SM → SS → SS → Prop) : Prop := ∃ (u3 : BF) (u1 : Nat → Int64), m_X0_init (0 : Int64) (0 : Int64) (5 : Int32) = some u3 ∧ m_X6_shapes (5 : Int32) (fun _ => 0) = some u1 ∧ ∀ q : Nat, Inv ((0 : Int32), (0 : Int32), q, (0 : Int32), (0 : Int32), (0 : Int64), (0 : Int64), (fun _ => 0), q, (0 : Int32), (0 : Int32), (0 : Int64), (0 : Int64), (fun _ => 0), (fun _ => none), (fun _ => 0), (0 : Int32), (fun _ => 0), q, (0 : Int64), (0 : Int64), (fun _ => 0), (fun _ => 0), (fun _ => 0), (fun _ => 0), (fun _ => 0), (fun _ => 0)) u3 ((5 : Int32), (0 : Int32), (0 : Int32), (0 : Int64), (0 : Int64), (0 : Int32), (0 : Int32), (0 : Int32), (0 : Int32), (fun _ => 0), u1, (fun _ => 0), (fun _ => 0), (fun _ => 0), (fun _ => 0), (fun _ => 0), (fun _ => 0), (fun _ => 0), (fun _ => 0), (fun _ => 0), (fun _ => 0), (fun _ => 0), (fun _ => 0), (fun _ => 0)) none none
def AllS (Inv : SX → BF → SM → SS → SS → Prop) : Prop := S_begin Inv ∧ S_rows Inv ∧ S_play Inv ∧ S_swap Inv ∧ S_takeBack Inv ∧ S_again Inv ∧ S_moves Inv ∧ S_moveAt Inv ∧ S_turn Inv ∧ S_winner Inv ∧ S_stones Inv ∧ S_beside Inv ∧ S_chains Inv ∧ S_chainOf Inv ∧ S_chain Inv ∧ S_distance Inv ∧ S_shortest Inv ∧ S_cut Inv ∧ S_bridges Inv ∧ S_bridge Inv ∧ S_answers Inv ∧ S_fillings Inv ∧ S_weight Inv ∧ S_dead Inv ∧ S_solve Inv ∧ S_winningMoves Inv ∧ S_duration Inv ∧ S_winningOpenings Inv ∧ S_strength Inv ∧ S_smallestFull Inv ∧ S_addThreat Inv ∧ S_clearThreats Inv ∧ S_threats Inv ∧ S_needed Inv ∧ S_randomGames Inv ∧ S_append Inv ∧ S_clearText Inv ∧ S_faultPosition Inv ∧ S_read Inv ∧ S_save Inv ∧ S_restore Inv ∧ S_checksum Inv
set_option maxHeartbeats 4000000 in
set_option maxRecDepth 100000 in
theorem law_loop {p : Program} {l : Launch} {e : Env} {s : State} {m : MethodId} {below : List Frame} {meth : Method} {c : Code} {D : va_G} {C : Nat → ClassId} {nm9 : String} {ax am : Nat → Nat} {bs L tp : Nat} {xs : Nat → Int32} {Inv : SX → BF → SM → SS → SS → Prop} (hc : Cx p s m #[Value.ref bs] meth c ⟨RL, nm9, ""⟩ cL_law 4 ret) (hK : va_K D vwCl (TY C) s) (hT : Xt tp (fun q : Nat => s.heap.size ≤ q) s s.heap) (hX : va_X bs L xs s s.heap) (hbl : bs < s.heap.size) (hL : L ≤ 3072) (hAll : AllS Inv) :
    ∀ (n k : Nat), k ≤ L → L + 1 ≤ k + n → ∀ (H : Heap) (locs : List Loc) (x : SX) (b : BF) (y : SM) (t0 t1 : SS), HLS D C s ax am H locs x b y t0 t1 → Inv x b y t0 t1 → ∀ (ls : Array Slot), lv_has ls 4 [(3, .int (nI k)), (0, .ref bs), (1, .ref (ax 0)), (2, .ref (am 0))] → W p l e room_1 s m #[Value.ref bs] below meth c H locs (60 + k) (60000 + 10 * k) (lw_Z below #[Value.ref bs] s) (F0 m 18 ls []) := by
  have hx := hc.1
  have hb := hc.2.1
  intro n
  induction n with
  | zero => intro k h1 h2; exact absurd h2 (by omega)
  | succ n ih =>
    intro k hkL hn H locs x b y t0 t1 hLS hI ls hl
    have hS := hLS.2.2.2.1
    refine lv_iload_n hx hb dL_law_18 rfl (lv_at hl 0 rfl) ?_
    refine lv_aload_n hx hb dL_law_19 rfl (lv_at hl 1 rfl) ?_
    refine va_slen hx hb hX hbl (Nat.not_le.mpr hbl) hS dL_law_20 ?_
    refine lv_bipush (v := (6 : Int32)) hx hb dL_law_21 (by decide) ?_
    refine lv_isub hx hb dL_law_23 ?_
    have e6 : (Int32.ofNat L - (6 : Int32)).toInt = (L : Int) - 6 := pk_sub_toInt (a := L) (b := 6) (by omega) (by decide)
    have ek : (nI k).toInt = (k : Int) := nI_toInt (by omega)
    refine lv_icmp_gt (tgt := 1218) hx hb dL_law_24 (by decide) (fun c1 => ?_) (fun c1 => ?_)
    · refine lv_iconst (v := (1 : Int32)) hx hb dL_law_1218 (by decide) ?_
      refine va_forget (fun q hq => hS.2.2 q hq) ?_
      refine W.widen (k := 600000) (n := 7302250) (by omega) (by omega) ?_
      exact lw_ret hx hb hc.2.2.1 hc.2.2.2.2.2.2.1 dL_law_1219
    · have hk6 : k + 6 ≤ L := by
        rw [Int32.lt_iff_toInt_lt, e6, ek] at c1
        omega
      have hcs : 60 + k + 2 ≤ room_1.cells ∧ 60000 + 10 * k + 56 ≤ room_1.slots := ⟨by show 60 + k + 2 ≤ 600000; omega, by show 60000 + 10 * k + 56 ≤ 7302250; omega⟩
      have kc : ∀ (H1 : Heap) (locs1 : List Loc) (x2 : SX) (b2 : BF) (y2 : SM) (u0 u1 : SS), HLS D C s ax am H1 locs1 x2 b2 y2 u0 u1 → Inv x2 b2 y2 u0 u1 → W p l e room_1 s m #[Value.ref bs] below meth c H1 locs1 (60 + k + 2) (60000 + 10 * k + 56) (lw_Z below #[Value.ref bs] s) (F0 m 1212 ls []) := by
        intro H1 locs1 x2 b2 y2 u0 u1 hLS2 hI2
        refine W.widen (k := 60 + (k + 6)) (n := 60000 + 10 * (k + 6)) (by omega) (by omega) ?_
        refine lv_iinc (v := nI (k + 6)) (lv' := [(3, .int (nI (k + 6))), (0, .ref bs), (1, .ref (ax 0)), (2, .ref (am 0))]) hx hb dL_law_1212 hl (k := 0) rfl (nI_add k 6) (by decide) rfl (fun ls hl => ?_)
        refine lv_goto (tgt := 18) hx hb dL_law_1215 (by decide) ?_
        exact ih (k + 6) hk6 (by omega) H1 locs1 x2 b2 y2 u0 u1 hLS2 hI2 ls hl
      refine lv_aload_n hx hb dL_law_27 rfl (lv_at hl 1 rfl) ?_
      refine lv_iload_n hx hb dL_law_28 rfl (lv_at hl 0 rfl) ?_
      refine sld hx hb hX hbl hL hS (j := k) (by omega) rfl dL_law_29 ?_
      refine lv_bipush (v := (63 : Int32)) hx hb dL_law_30 (by decide) ?_
      refine lv_iand hx hb dL_law_32 ?_
      obtain ⟨j, hj, ej⟩ := pk_andE (xs k) (m := (63 : Int32)) 6 (by decide)
      rw [ej]
      by_cases e0 : j = 0
      · subst e0
        refine lv_tableIn (tgt := 216) hx hb dL_law_33 (by decide) (by decide) rfl (by decide) ?_
        exact L_begin hc hK hT hX hbl hL hk6 hcs hl hLS hI hAll.1 kc
      by_cases e1 : j = 1
      · subst e1
        refine lv_tableIn (tgt := 239) hx hb dL_law_33 (by decide) (by decide) rfl (by decide) ?_
        exact L_rows hc hK hT hX hbl hL hk6 hcs hl hLS hI hAll.2.1 kc
      by_cases e2 : j = 2
      · subst e2
        refine lv_tableIn (tgt := 252) hx hb dL_law_33 (by decide) (by decide) rfl (by decide) ?_
        exact L_play hc hK hT hX hbl hL hk6 hcs hl hLS hI hAll.2.2.1 kc
      by_cases e3 : j = 3
      · subst e3
        refine lv_tableIn (tgt := 275) hx hb dL_law_33 (by decide) (by decide) rfl (by decide) ?_
        exact L_swap hc hK hT hX hbl hL hk6 hcs hl hLS hI hAll.2.2.2.1 kc
      by_cases e4 : j = 4
      · subst e4
        refine lv_tableIn (tgt := 288) hx hb dL_law_33 (by decide) (by decide) rfl (by decide) ?_
        exact L_takeBack hc hK hT hX hbl hL hk6 hcs hl hLS hI hAll.2.2.2.2.1 kc
      by_cases e5 : j = 5
      · subst e5
        refine lv_tableIn (tgt := 301) hx hb dL_law_33 (by decide) (by decide) rfl (by decide) ?_
        exact L_again hc hK hT hX hbl hL hk6 hcs hl hLS hI hAll.2.2.2.2.2.1 kc
      by_cases e6 : j = 6
      · subst e6
        refine lv_tableIn (tgt := 314) hx hb dL_law_33 (by decide) (by decide) rfl (by decide) ?_
        exact L_moves hc hK hT hX hbl hL hk6 hcs hl hLS hI hAll.2.2.2.2.2.2.1 kc
      by_cases e7 : j = 7
      · subst e7
        refine lv_tableIn (tgt := 327) hx hb dL_law_33 (by decide) (by decide) rfl (by decide) ?_
        exact L_moveAt hc hK hT hX hbl hL hk6 hcs hl hLS hI hAll.2.2.2.2.2.2.2.1 kc
      by_cases e8 : j = 8
      · subst e8
        refine lv_tableIn (tgt := 350) hx hb dL_law_33 (by decide) (by decide) rfl (by decide) ?_
        exact L_turn hc hK hT hX hbl hL hk6 hcs hl hLS hI hAll.2.2.2.2.2.2.2.2.1 kc
      by_cases e9 : j = 9
      · subst e9
        refine lv_tableIn (tgt := 363) hx hb dL_law_33 (by decide) (by decide) rfl (by decide) ?_
        exact L_winner hc hK hT hX hbl hL hk6 hcs hl hLS hI hAll.2.2.2.2.2.2.2.2.2.1 kc
      by_cases e10 : j = 10
      · subst e10
        refine lv_tableIn (tgt := 376) hx hb dL_law_33 (by decide) (by decide) rfl (by decide) ?_
        exact L_stones hc hK hT hX hbl hL hk6 hcs hl hLS hI hAll.2.2.2.2.2.2.2.2.2.2.1 kc
      by_cases e11 : j = 11
      · subst e11
        refine lv_tableIn (tgt := 400) hx hb dL_law_33 (by decide) (by decide) rfl (by decide) ?_
        exact L_beside hc hK hT hX hbl hL hk6 hcs hl hLS hI hAll.2.2.2.2.2.2.2.2.2.2.2.1 kc
      by_cases e12 : j = 12
      · subst e12
        refine lv_tableIn (tgt := 424) hx hb dL_law_33 (by decide) (by decide) rfl (by decide) ?_
        exact L_chains hc hK hT hX hbl hL hk6 hcs hl hLS hI hAll.2.2.2.2.2.2.2.2.2.2.2.2.1 kc
      by_cases e13 : j = 13
      · subst e13
        refine lv_tableIn (tgt := 447) hx hb dL_law_33 (by decide) (by decide) rfl (by decide) ?_
        exact L_chainOf hc hK hT hX hbl hL hk6 hcs hl hLS hI hAll.2.2.2.2.2.2.2.2.2.2.2.2.2.1 kc
      by_cases e14 : j = 14
      · subst e14
        refine lv_tableIn (tgt := 470) hx hb dL_law_33 (by decide) (by decide) rfl (by decide) ?_
        exact L_chain hc hK hT hX hbl hL hk6 hcs hl hLS hI hAll.2.2.2.2.2.2.2.2.2.2.2.2.2.2.1 kc
      by_cases e15 : j = 15
      · subst e15
        refine lv_tableIn (tgt := 494) hx hb dL_law_33 (by decide) (by decide) rfl (by decide) ?_
        exact L_distance hc hK hT hX hbl hL hk6 hcs hl hLS hI hAll.2.2.2.2.2.2.2.2.2.2.2.2.2.2.2.1 kc
      by_cases e16 : j = 16
      · subst e16
        refine lv_tableIn (tgt := 517) hx hb dL_law_33 (by decide) (by decide) rfl (by decide) ?_
        exact L_shortest hc hK hT hX hbl hL hk6 hcs hl hLS hI hAll.2.2.2.2.2.2.2.2.2.2.2.2.2.2.2.2.1 kc
      by_cases e17 : j = 17
      · subst e17
        refine lv_tableIn (tgt := 541) hx hb dL_law_33 (by decide) (by decide) rfl (by decide) ?_
        exact L_cut hc hK hT hX hbl hL hk6 hcs hl hLS hI hAll.2.2.2.2.2.2.2.2.2.2.2.2.2.2.2.2.2.1 kc
      by_cases e18 : j = 18
      · subst e18
        refine lv_tableIn (tgt := 564) hx hb dL_law_33 (by decide) (by decide) rfl (by decide) ?_
        exact L_bridges hc hK hT hX hbl hL hk6 hcs hl hLS hI hAll.2.2.2.2.2.2.2.2.2.2.2.2.2.2.2.2.2.2.1 kc
      by_cases e19 : j = 19
      · subst e19
        refine lv_tableIn (tgt := 587) hx hb dL_law_33 (by decide) (by decide) rfl (by decide) ?_
        exact L_bridge hc hK hT hX hbl hL hk6 hcs hl hLS hI hAll.2.2.2.2.2.2.2.2.2.2.2.2.2.2.2.2.2.2.2.1 kc
      by_cases e20 : j = 20
      · subst e20
        refine lv_tableIn (tgt := 630) hx hb dL_law_33 (by decide) (by decide) rfl (by decide) ?_
        exact L_answers hc hK hT hX hbl hL hk6 hcs hl hLS hI hAll.2.2.2.2.2.2.2.2.2.2.2.2.2.2.2.2.2.2.2.2.1 kc
      by_cases e21 : j = 21
      · subst e21
        refine lv_tableIn (tgt := 644) hx hb dL_law_33 (by decide) (by decide) rfl (by decide) ?_
        exact L_fillings hc hK hT hX hbl hL hk6 hcs hl hLS hI hAll.2.2.2.2.2.2.2.2.2.2.2.2.2.2.2.2.2.2.2.2.2.1 kc
      by_cases e22 : j = 22
      · subst e22
        refine lv_tableIn (tgt := 667) hx hb dL_law_33 (by decide) (by decide) rfl (by decide) ?_
        exact L_weight hc hK hT hX hbl hL hk6 hcs hl hLS hI hAll.2.2.2.2.2.2.2.2.2.2.2.2.2.2.2.2.2.2.2.2.2.2.1 kc
      by_cases e23 : j = 23
      · subst e23
        refine lv_tableIn (tgt := 690) hx hb dL_law_33 (by decide) (by decide) rfl (by decide) ?_
        exact L_dead hc hK hT hX hbl hL hk6 hcs hl hLS hI hAll.2.2.2.2.2.2.2.2.2.2.2.2.2.2.2.2.2.2.2.2.2.2.2.1 kc
      by_cases e24 : j = 24
      · subst e24
        refine lv_tableIn (tgt := 704) hx hb dL_law_33 (by decide) (by decide) rfl (by decide) ?_
        exact L_solve hc hK hT hX hbl hL hk6 hcs hl hLS hI hAll.2.2.2.2.2.2.2.2.2.2.2.2.2.2.2.2.2.2.2.2.2.2.2.2.1 kc
      by_cases e25 : j = 25
      · subst e25
        refine lv_tableIn (tgt := 717) hx hb dL_law_33 (by decide) (by decide) rfl (by decide) ?_
        exact L_winningMoves hc hK hT hX hbl hL hk6 hcs hl hLS hI hAll.2.2.2.2.2.2.2.2.2.2.2.2.2.2.2.2.2.2.2.2.2.2.2.2.2.1 kc
      by_cases e26 : j = 26
      · subst e26
        refine lv_tableIn (tgt := 731) hx hb dL_law_33 (by decide) (by decide) rfl (by decide) ?_
        exact L_duration hc hK hT hX hbl hL hk6 hcs hl hLS hI hAll.2.2.2.2.2.2.2.2.2.2.2.2.2.2.2.2.2.2.2.2.2.2.2.2.2.2.1 kc
      by_cases e27 : j = 27
      · subst e27
        refine lv_tableIn (tgt := 744) hx hb dL_law_33 (by decide) (by decide) rfl (by decide) ?_
        exact L_winningOpenings hc hK hT hX hbl hL hk6 hcs hl hLS hI hAll.2.2.2.2.2.2.2.2.2.2.2.2.2.2.2.2.2.2.2.2.2.2.2.2.2.2.2.1 kc
      by_cases e28 : j = 28
      · subst e28
        refine lv_tableIn (tgt := 768) hx hb dL_law_33 (by decide) (by decide) rfl (by decide) ?_
        exact L_strength hc hK hT hX hbl hL hk6 hcs hl hLS hI hAll.2.2.2.2.2.2.2.2.2.2.2.2.2.2.2.2.2.2.2.2.2.2.2.2.2.2.2.2.1 kc
      by_cases e29 : j = 29
      · subst e29
        refine lv_tableIn (tgt := 851) hx hb dL_law_33 (by decide) (by decide) rfl (by decide) ?_
        exact L_smallestFull hc hK hT hX hbl hL hk6 hcs hl hLS hI hAll.2.2.2.2.2.2.2.2.2.2.2.2.2.2.2.2.2.2.2.2.2.2.2.2.2.2.2.2.2.1 kc
      by_cases e30 : j = 30
      · subst e30
        refine lv_tableIn (tgt := 934) hx hb dL_law_33 (by decide) (by decide) rfl (by decide) ?_
        exact L_addThreat hc hK hT hX hbl hL hk6 hcs hl hLS hI hAll.2.2.2.2.2.2.2.2.2.2.2.2.2.2.2.2.2.2.2.2.2.2.2.2.2.2.2.2.2.2.1 kc
      by_cases e31 : j = 31
      · subst e31
        refine lv_tableIn (tgt := 997) hx hb dL_law_33 (by decide) (by decide) rfl (by decide) ?_
        exact L_clearThreats hc hK hT hX hbl hL hk6 hcs hl hLS hI hAll.2.2.2.2.2.2.2.2.2.2.2.2.2.2.2.2.2.2.2.2.2.2.2.2.2.2.2.2.2.2.2.1 kc
      by_cases e32 : j = 32
      · subst e32
        refine lv_tableIn (tgt := 1010) hx hb dL_law_33 (by decide) (by decide) rfl (by decide) ?_
        exact L_threats hc hK hT hX hbl hL hk6 hcs hl hLS hI hAll.2.2.2.2.2.2.2.2.2.2.2.2.2.2.2.2.2.2.2.2.2.2.2.2.2.2.2.2.2.2.2.2.1 kc
      by_cases e33 : j = 33
      · subst e33
        refine lv_tableIn (tgt := 1033) hx hb dL_law_33 (by decide) (by decide) rfl (by decide) ?_
        exact L_needed hc hK hT hX hbl hL hk6 hcs hl hLS hI hAll.2.2.2.2.2.2.2.2.2.2.2.2.2.2.2.2.2.2.2.2.2.2.2.2.2.2.2.2.2.2.2.2.2.1 kc
      by_cases e34 : j = 34
      · subst e34
        refine lv_tableIn (tgt := 1057) hx hb dL_law_33 (by decide) (by decide) rfl (by decide) ?_
        exact L_randomGames hc hK hT hX hbl hL hk6 hcs hl hLS hI hAll.2.2.2.2.2.2.2.2.2.2.2.2.2.2.2.2.2.2.2.2.2.2.2.2.2.2.2.2.2.2.2.2.2.2.1 kc
      by_cases e35 : j = 35
      · subst e35
        refine lv_tableIn (tgt := 1090) hx hb dL_law_33 (by decide) (by decide) rfl (by decide) ?_
        exact L_append hc hK hT hX hbl hL hk6 hcs hl hLS hI hAll.2.2.2.2.2.2.2.2.2.2.2.2.2.2.2.2.2.2.2.2.2.2.2.2.2.2.2.2.2.2.2.2.2.2.2.1 kc
      by_cases e36 : j = 36
      · subst e36
        refine lv_tableIn (tgt := 1113) hx hb dL_law_33 (by decide) (by decide) rfl (by decide) ?_
        exact L_clearText hc hK hT hX hbl hL hk6 hcs hl hLS hI hAll.2.2.2.2.2.2.2.2.2.2.2.2.2.2.2.2.2.2.2.2.2.2.2.2.2.2.2.2.2.2.2.2.2.2.2.2.1 kc
      by_cases e37 : j = 37
      · subst e37
        refine lv_tableIn (tgt := 1126) hx hb dL_law_33 (by decide) (by decide) rfl (by decide) ?_
        exact L_faultPosition hc hK hT hX hbl hL hk6 hcs hl hLS hI hAll.2.2.2.2.2.2.2.2.2.2.2.2.2.2.2.2.2.2.2.2.2.2.2.2.2.2.2.2.2.2.2.2.2.2.2.2.2.1 kc
      by_cases e38 : j = 38
      · subst e38
        refine lv_tableIn (tgt := 1139) hx hb dL_law_33 (by decide) (by decide) rfl (by decide) ?_
        exact L_read hc hK hT hX hbl hL hk6 hcs hl hLS hI hAll.2.2.2.2.2.2.2.2.2.2.2.2.2.2.2.2.2.2.2.2.2.2.2.2.2.2.2.2.2.2.2.2.2.2.2.2.2.2.1 kc
      by_cases e39 : j = 39
      · subst e39
        refine lv_tableIn (tgt := 1152) hx hb dL_law_33 (by decide) (by decide) rfl (by decide) ?_
        exact L_save hc hK hT hX hbl hL hk6 hcs hl hLS hI hAll.2.2.2.2.2.2.2.2.2.2.2.2.2.2.2.2.2.2.2.2.2.2.2.2.2.2.2.2.2.2.2.2.2.2.2.2.2.2.2.1 kc
      by_cases e40 : j = 40
      · subst e40
        refine lv_tableIn (tgt := 1175) hx hb dL_law_33 (by decide) (by decide) rfl (by decide) ?_
        exact L_restore hc hK hT hX hbl hL hk6 hcs hl hLS hI hAll.2.2.2.2.2.2.2.2.2.2.2.2.2.2.2.2.2.2.2.2.2.2.2.2.2.2.2.2.2.2.2.2.2.2.2.2.2.2.2.2.1 kc
      by_cases e41 : j = 41
      · subst e41
        refine lv_tableIn (tgt := 1198) hx hb dL_law_33 (by decide) (by decide) rfl (by decide) ?_
        exact L_checksum hc hK hT hX hbl hL hk6 hcs hl hLS hI hAll.2.2.2.2.2.2.2.2.2.2.2.2.2.2.2.2.2.2.2.2.2.2.2.2.2.2.2.2.2.2.2.2.2.2.2.2.2.2.2.2.2 kc
      have hj2 : 41 < (nI j).toInt := by rw [nI_toInt (by omega)]; omega
      refine lv_tableOut (tgt := 1212) hx hb dL_law_33 (Or.inr hj2) (by decide) ?_
      refine W.widen (k := 60 + k + 2) (n := 60000 + 10 * k + 56) (by omega) (by omega) ?_
      exact kc _ _ _ _ _ _ _ hLS hI

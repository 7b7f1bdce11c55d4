section BASE5
variable {p : Program} {l : Launch} {e : Env} {R : Room} {s : State} {m : MethodId} {args : Array Value} {below : List Frame} {meth : Method} {c : Code} {H : Heap} {locs : List Loc} {cells slots : Nat} {Q : State → Prop} {y0 y : MethodName} {cc b : ByteArray} {nL0 nL k index pc : Nat} {ret0 ret : Option FieldType} {rm : Room} {D : va_G} {C : Nat → ClassId} {ls : Array Slot} {lv : List (Nat × Value)} {As rest st : List Value}
theorem bl_I {av : List Value} {sz : Nat} {W0 ro : va_W} : FrameBlind (PWI av D C sz W0 ro) := fun a U g mk q => by
  obtain ⟨q0, q1, qP, qK, qD, qO, qN, q1', q2', q3'⟩ := q
  exact ⟨q0, q1, qP, va_K.moved (u := U) (U := U.calling g mk a) (Vm.Alike.refl U.vm) qK, qD, qO, qN, va_AO.moved (u := U) (U := U.calling g mk a) (Vm.Alike.refl U.vm) q1', va_Nw.same rfl (u := U) (U := U.calling g mk a) rfl q2', va_Nw.same rfl (u := U) (U := U.calling g mk a) rfl q3'⟩
theorem wcIP {mc ms : Nat} {A : Nat → Prop} {ws wc rc : va_W} {w1 : (Nat → Nat) → va_W} {h : Nat} (hc : Cx p s m args meth c y0 cc nL0 ret0) (kal : CalI y0.cls index y b nL k) (hy1 : y.name = "<init>") (hM : Met l y (wl y b nL none) rm (PWI (.ref h :: As) D C H.size wc rc) (QAv D w1 (va_A wc H.size)) mc ms (va_A wc H.size)) (hR : Rm rm R nL mc ms)
    (hP : va_P D vwCl ws H) (hD : va_D A ws) (hS : va_S A s.heap H locs) (hA : ∀ q : Nat, s.heap.size ≤ q → A q) (hK : va_K D vwCl (TY C) s) (isC isR : List Nat) (hC : isC.map (fun i => ws[i]?) = wc.map some) (hRr : isR.all (fun i => (ws[i]?).isSome) = true) (hnC : va_nd isC = true) (hnR : va_nd isR = true) (hdis : ∀ i ∈ isR, i ∉ isC) (hO : va_P D vwCl rc H) (hN : Ap wc H.size rc) (hAO : va_AO "HexWorkbench$Game" s) (hN17 : va_Nw (.methodLinkNest "HexWorkbench" 17 ⟨"HexWorkbench$Paths", "<init>", "()V"⟩ "HexWorkbench") s) (hN24 : va_Nw (.methodLinkNest "HexWorkbench" 24 ⟨"HexWorkbench$Fillings", "<init>", "()V"⟩ "HexWorkbench") s)
    (hl : lv_has ls nL0 lv) (hst : st = As.reverse ++ .ref h :: rest) (hn : As.length = k) (hW : (rest.map fun v => v.category).sum ≤ 8) (hs : cells + mc ≤ R.cells ∧ slots + ms ≤ R.slots) (hd : decode cc pc = .ok (.invokespecial index, 3))
    (kk : ∀ (u : Nat → Nat) (H1 : Heap) (locs1 : List Loc), va_P D vwCl (isR.filterMap (fun i => ws[i]?) ++ w1 u) H1 → va_D A (isR.filterMap (fun i => ws[i]?) ++ w1 u) → va_S A s.heap H1 locs1 → W p l e R s m args below meth c H1 locs1 (cells + mc) (slots + ms) Q (F0 m (pc + 3) ls rest)) : W p l e R s m args below meth c H locs cells slots Q (F0 m pc ls st) := by
  subst hst
  have hFc := va_free (wc := wc) hD hS hA isC hC
  have hDc := hD.sub isC hnC hC
  have hPc : va_P D vwCl wc H := by
    intro k q hk
    have h1 : (isC.map (fun i => ws[i]?))[k]? = some (some q) := by rw [hC, List.getElem?_map, hk]; rfl
    rw [List.getElem?_map] at h1
    cases hi : isC[k]? with
    | none => rw [hi] at h1; cases h1
    | some i => rw [hi] at h1; exact hP i q (Option.some.inj h1)
  refine va_callv (va_runI (As := As) (rest := rest) (b := h) ⟨hc.1, hc.2.1, hc.2.2.2.1, hc.2.2.2.2.1, hc.2.2.2.2.2.1⟩ hM ⟨cb_of hc.2.2.2.2.2.1 kal.1 hR, hy1, hc.2.2.2.2.2.1 _ kal.2⟩ ⟨bl_I, fun U hU hW => ⟨rfl, by rw [hU], by rw [hU]; exact hPc, va_K.moved hW.alike hK, hDc.weaken (fun _ _ _ _ => trivial), by rw [hU]; exact hO, hN, va_AO.moved hW.alike hAO, va_Nw.warmM hW hN17, va_Nw.warmM hW hN24⟩⟩ rfl hn hl.1 rfl (lv_room hW) hd hs) hS (fun q _ h => hFc q h) hFc (fun u t H1 locs1 ht hvm hw hB hz1 hk1 hS1 => ?_)
  obtain ⟨hP1, hD1⟩ := hB
  rw [ht] at hP1
  obtain ⟨hP2, hD2⟩ := va_join hP hD isC isR hC (fm_some hRr) hnR hdis hk1 hFc hP1 hD1
  exact kk u H1 locs1 hP2 hD2 hS1
end BASE5
set_option maxHeartbeats 4000000 in
set_option maxRecDepth 100000 in
theorem whole_start0 {p : Program} {e : Env} {s : State} {m : MethodId} {below : List Frame} {meth : Method} {c : Code} (l : Launch) {b L : Nat} {xs : Nat → Int32} (hL : L ≤ 3072) (C0 : lw_At p s m meth c b L xs) {Inv : SX → BF → SM → SS → SS → Prop} (hAll : AllS Inv) (hI0 : S_init Inv) : W p l e room_1 s m #[Value.ref b] below meth c s.heap [] 0 0 (lw_Z below #[Value.ref b] s) (entryFrame m ([Value.ref b] : List Value).toArray 4) := by
  obtain ⟨hx, hb, hr, hml, hown, hts0, hX, hbl, hlocks, hgv⟩ := id C0
  have hA : ∀ q : Nat, s.heap.size ≤ q → (fun q : Nat => s.heap.size ≤ q) q := fun _ h => h
  have hts : ∀ w ∈ lw_g, w.before #[Value.ref b] s = true := fun w hw => hts0 w (List.mem_filter.mp hw).1
  have hc : Cx p s m #[Value.ref b] meth c ⟨RL, meth.name, ""⟩ cL_law 4 ret := ⟨hx, hb, hr, hml, hown, hts, hlocks, rfl⟩
  obtain ⟨c0, i0, k0⟩ := u_known (C := RX0) (T := TX0) (N := 7) (n := 7) hts inX0 (hts _ q_45)
  obtain ⟨c1, i1, k1⟩ := u_known (C := RX1) (T := TX1) (N := 5) (n := 5) hts inX1 (hts _ q_116)
  obtain ⟨c2, i2, k2⟩ := u_known (C := RX2) (T := TX2) (N := 2) (n := 2) hts inX2 (hts _ q_32)
  obtain ⟨c3, i3, k3⟩ := u_known (C := RX3) (T := TX3) (N := 6) (n := 6) hts inX3 (hts _ q_86)
  obtain ⟨c4, i4, k4⟩ := u_known (C := RX4) (T := TX4) (N := 1) (n := 1) hts inX4 (hts _ q_21)
  obtain ⟨c5, i5, k5⟩ := u_known (C := RX5) (T := TX5) (N := 12) (n := 12) hts inX5 (hts _ q_11)
  obtain ⟨c6, i6, k6⟩ := u_known (C := RX6) (T := TX6) (N := 24) (n := 24) hts inX6 (hts _ q_638)
  obtain ⟨dC, dI, hKc⟩ : ∃ (dC : Nat → ClassId) (dI : Nat → Nat → Nat), ∀ (k : Nat) (q : vw_C), vwCl[k]? = some q → u_Kn s q.1 q.2.1 q.2.2 (dC k) (dI k) := by
    refine ⟨fun k => match k with | 0 => c0 | 1 => c1 | 2 => c2 | 3 => c3 | 4 => c4 | 5 => c5 | _ => c6, fun k => match k with | 0 => i0 | 1 => i1 | 2 => i2 | 3 => i3 | 4 => i4 | 5 => i5 | _ => i6, ?_⟩
    intro k q hq
    match k, hq with
    | 0, hq => cases hq; exact k0
    | 1, hq => cases hq; exact k1
    | 2, hq => cases hq; exact k2
    | 3, hq => cases hq; exact k3
    | 4, hq => cases hq; exact k4
    | 5, hq => cases hq; exact k5
    | 6, hq => cases hq; exact k6
    | k + 7, hq => simp [vwCl] at hq
  obtain ⟨aI9, kI, mI, f1I, f2I, f3I⟩ := Cond.arrayClass_spec (hts _ q_84)
  obtain ⟨aJ9, kJ, mJ, f1J, f2J, f3J⟩ := Cond.arrayClass_spec (hts _ q_30)
  obtain ⟨aB9, kB, mB, f1B, f2B, f3B⟩ := Cond.arrayClass_spec (hts _ q_85)
  obtain ⟨aZ9, kZ, mZ, f1Z, f2Z, f3Z⟩ := Cond.arrayClass_spec (hts _ q_727)
  have hAO : va_AO "HexWorkbench$Game" s := va_AO.of (hts0 _ q_19)
  obtain ⟨mG, aG9, kG, g1, g2, g3, g4, g5⟩ := Cond.arrayOver_spec hAO
  obtain ⟨C, hC0, hC1, hC2, hC3, hC4⟩ : ∃ C : Nat → ClassId, C 0 = aI9 ∧ C 1 = aJ9 ∧ C 2 = aB9 ∧ C 3 = aZ9 ∧ C 4 = aG9 := ⟨fun k => match k with | 0 => aI9 | 1 => aJ9 | 2 => aB9 | 3 => aZ9 | _ => aG9, rfl, rfl, rfl, rfl, rfl⟩
  have hK : va_K (dC, dI) vwCl (TY C) s := by
    refine ⟨hKc, fun k q hq => ?_⟩
    match k, hq with
    | 0, hq => cases hq; rw [hC0]; exact ⟨fun n z => ⟨fun k h => (by cases h), kI, f2I, mI, f3I⟩, f1I⟩
    | 1, hq => cases hq; rw [hC1]; exact ⟨fun n z => ⟨fun k h => (by cases h), kJ, f2J, mJ, f3J⟩, f1J⟩
    | 2, hq => cases hq; rw [hC2]; exact ⟨fun n z => ⟨fun k h => (by cases h), kB, f2B, mB, f3B⟩, f1B⟩
    | 3, hq => cases hq; rw [hC3]; exact ⟨fun n z => ⟨fun k h => (by cases h), kZ, f2Z, mZ, f3Z⟩, f1Z⟩
    | 4, hq => cases hq; rw [hC4]; exact ⟨fun n z => ⟨fun k h => (by cases h), kG, g3, mG, g4⟩, kG, mG, g3, g4, g1, g5⟩
    | k + 5, hq => simp [TY] at hq
  have hg := flat_of_before _ hgv
  obtain ⟨tp, htp, hTt⟩ := va_Tof (args := #[Value.ref b]) (s := s) (tm := (.static "HexWorkbench$Contest" "POWERS" "[I")) (ty := .int) (N := 9) (f := fun j => .int (pw9 j)) (A := fun q : Nat => s.heap.size ≤ q) (by decide) (hg _ (by decide +kernel)) (va_eqt (hg (Cond.eq (.length (.static "HexWorkbench$Contest" "POWERS" "[I")) (.int 9)) (by decide +kernel))) (fun j hj => by
    match j, hj with
    | 0, _ => exact va_eqt (hg (Cond.eq (.elem (.static "HexWorkbench$Contest" "POWERS" "[I") (.int 0)) (.int 1)) (by decide +kernel))
    | 1, _ => exact va_eqt (hg (Cond.eq (.elem (.static "HexWorkbench$Contest" "POWERS" "[I") (.int 1)) (.int 3)) (by decide +kernel))
    | 2, _ => exact va_eqt (hg (Cond.eq (.elem (.static "HexWorkbench$Contest" "POWERS" "[I") (.int 2)) (.int 9)) (by decide +kernel))
    | 3, _ => exact va_eqt (hg (Cond.eq (.elem (.static "HexWorkbench$Contest" "POWERS" "[I") (.int 3)) (.int 27)) (by decide +kernel))
    | 4, _ => exact va_eqt (hg (Cond.eq (.elem (.static "HexWorkbench$Contest" "POWERS" "[I") (.int 4)) (.int 81)) (by decide +kernel))
    | 5, _ => exact va_eqt (hg (Cond.eq (.elem (.static "HexWorkbench$Contest" "POWERS" "[I") (.int 5)) (.int 243)) (by decide +kernel))
    | 6, _ => exact va_eqt (hg (Cond.eq (.elem (.static "HexWorkbench$Contest" "POWERS" "[I") (.int 6)) (.int 729)) (by decide +kernel))
    | 7, _ => exact va_eqt (hg (Cond.eq (.elem (.static "HexWorkbench$Contest" "POWERS" "[I") (.int 7)) (.int 2187)) (by decide +kernel))
    | 8, _ => exact va_eqt (hg (Cond.eq (.elem (.static "HexWorkbench$Contest" "POWERS" "[I") (.int 8)) (.int 6561)) (by decide +kernel))
    | j + 9, h => exact absurd h (by omega)) (fun a ha h => Nat.not_le.mpr ha h)
  have hT : Xt tp (fun q : Nat => s.heap.size ≤ q) s s.heap := ⟨va_Zref (hts0 _ q_474) (hts _ q_6) htp (fun a ha h => Nat.not_le.mpr ha h), hTt, va_Nw.of rfl (hts0 _ q_418)⟩
  obtain ⟨u3, u1, hu3, hu1, hI⟩ := hI0
  have hS : va_S (fun q : Nat => s.heap.size ≤ q) s.heap s.heap [] := va_S.rf
  have hP : va_P (dC, dI) vwCl [] s.heap := fun k q h => by simp at h
  have hD : va_D (fun q : Nat => s.heap.size ≤ q) [] := ⟨fun i j p q h => by simp at h, fun k q h => by simp at h⟩
  refine en_F rfl (fun ls hl => ?_)
  have hl : lv_has ls 4 [(0, .ref b)] := hl
  refine va_new (ci := 5) (fs := [.null, .null, .null, .null, .null, .null, .null, .null, .null, .int 0, .null, .int 0]) (C := RX5) (T := TX5) (N := 12) hx hb hts inX5 tyX5 tyX5_ok hown (hts _ q_10) (hts _ q_11) (hts _ q_1) hK hP hD hS hA rfl (fun j hj => by rcases (show j = 0 ∨ j = 1 ∨ j = 2 ∨ j = 3 ∨ j = 4 ∨ j = 5 ∨ j = 6 ∨ j = 7 ∨ j = 8 ∨ j = 9 ∨ j = 10 ∨ j = 11 by omega) with rfl | rfl | rfl | rfl | rfl | rfl | rfl | rfl | rfl | rfl | rfl | rfl <;> rfl) (Nat.le_of_ble_eq_true rfl) (Nat.le_of_ble_eq_true rfl) dL_law_0 (fun q0 H hP hD hS => ?_)
  have hP : va_P (dC, dI) vwCl [(q0, .inr (5, [.null, .null, .null, .null, .null, .null, .null, .null, .null, .int 0, .null, .int 0]))] H := hP
  have hD : va_D (fun q : Nat => s.heap.size ≤ q) [(q0, .inr (5, [.null, .null, .null, .null, .null, .null, .null, .null, .null, .int 0, .null, .int 0]))] := hD
  refine lv_dup hx hb dL_law_3 rfl ?_
  refine wcIP (A := fun q : Nat => s.heap.size ≤ q) (As := []) (rest := [.ref q0]) (mc := 17) (ms := 2152) hc k_L_9 rfl (c_X5_init l (dC, dI) C _ q0 u3 hu3) ⟨rfl, rfl, Nat.le_of_ble_eq_true rfl, Nat.le_of_ble_eq_true rfl⟩ hP hD hS hA hK [0] [] rfl rfl rfl rfl (by decide) (hP.sub [] rfl) Ap_nil hAO (va_Nw.of rfl (hts0 _ q_22)) (va_Nw.of rfl (hts0 _ q_33)) hl rfl rfl (Nat.le_of_ble_eq_true rfl) ⟨(Nat.le_of_ble_eq_true rfl), (Nat.le_of_ble_eq_true rfl)⟩ dL_law_4 (fun u H locs hP hD hS => ?_)
  have hP : va_P (dC, dI) vwCl [cX5 q0 (u 10) (u 12) (u 0) (u 1) (u 3) (u 14) (u 5) (u 6) (u 7) (0 : Int32) (u 8) (0 : Int32), cX3 (u 10) (u 9) (0 : Int32) (0 : Int32) (u 11) (0 : Int64) (0 : Int64), aI C (u 11) 50 (fun _ => 0), cX3 (u 12) (u 9) (0 : Int32) (0 : Int32) (u 13) (0 : Int64) (0 : Int64), aI C (u 13) 50 (fun _ => 0), aG C (u 0) 2 (fun _ => none), cX4 (u 1) (u 2), aJ C (u 2) 50 (fun _ => 0), cX2 (u 3) (u 4) (0 : Int32), aJ C (u 4) 64 (fun _ => 0), cX1 (u 14) (u 9) (0 : Int64) (0 : Int64) (u 15) (u 16), aJ C (u 15) 9 (fun _ => 0), aJ C (u 16) 1641 (fun _ => 0), aI C (u 5) 147 (fun _ => 0), aI C (u 6) 6 (fun _ => 0), aJ C (u 7) 6 (fun _ => 0), aB C (u 8) 100 (fun _ => 0), cX0 (u 9) u3.1 u3.2.1 u3.2.2.1 u3.2.2.2.1 u3.2.2.2.2.1 u3.2.2.2.2.2.1 u3.2.2.2.2.2.2] H := hP
  have hD : va_D (fun q : Nat => s.heap.size ≤ q) [cX5 q0 (u 10) (u 12) (u 0) (u 1) (u 3) (u 14) (u 5) (u 6) (u 7) (0 : Int32) (u 8) (0 : Int32), cX3 (u 10) (u 9) (0 : Int32) (0 : Int32) (u 11) (0 : Int64) (0 : Int64), aI C (u 11) 50 (fun _ => 0), cX3 (u 12) (u 9) (0 : Int32) (0 : Int32) (u 13) (0 : Int64) (0 : Int64), aI C (u 13) 50 (fun _ => 0), aG C (u 0) 2 (fun _ => none), cX4 (u 1) (u 2), aJ C (u 2) 50 (fun _ => 0), cX2 (u 3) (u 4) (0 : Int32), aJ C (u 4) 64 (fun _ => 0), cX1 (u 14) (u 9) (0 : Int64) (0 : Int64) (u 15) (u 16), aJ C (u 15) 9 (fun _ => 0), aJ C (u 16) 1641 (fun _ => 0), aI C (u 5) 147 (fun _ => 0), aI C (u 6) 6 (fun _ => 0), aJ C (u 7) 6 (fun _ => 0), aB C (u 8) 100 (fun _ => 0), cX0 (u 9) u3.1 u3.2.1 u3.2.2.1 u3.2.2.2.1 u3.2.2.2.2.1 u3.2.2.2.2.2.1 u3.2.2.2.2.2.2] := hD
  refine lv_astore_n (lv' := [(1, .ref q0), (0, .ref b)]) hx hb dL_law_7 rfl hl (by decide) rfl (fun ls hl => ?_)
  refine va_new (ci := 6) (fs := [.int 0, .null, .int 0, .int 0, .long 0, .long 0, .null, .null, .null, .null, .null, .int 0, .null, .int 0, .null, .null, .null, .int 0, .null, .null, .null, .null, .null, .int 0]) (C := RX6) (T := TX6) (N := 24) hx hb hts inX6 tyX6 tyX6_ok hown (hts _ q_637) (hts _ q_638) (hts _ q_7) hK hP hD hS hA rfl (fun j hj => by rcases (show j = 0 ∨ j = 1 ∨ j = 2 ∨ j = 3 ∨ j = 4 ∨ j = 5 ∨ j = 6 ∨ j = 7 ∨ j = 8 ∨ j = 9 ∨ j = 10 ∨ j = 11 ∨ j = 12 ∨ j = 13 ∨ j = 14 ∨ j = 15 ∨ j = 16 ∨ j = 17 ∨ j = 18 ∨ j = 19 ∨ j = 20 ∨ j = 21 ∨ j = 22 ∨ j = 23 by omega) with rfl | rfl | rfl | rfl | rfl | rfl | rfl | rfl | rfl | rfl | rfl | rfl | rfl | rfl | rfl | rfl | rfl | rfl | rfl | rfl | rfl | rfl | rfl | rfl <;> rfl) (Nat.le_of_ble_eq_true rfl) (Nat.le_of_ble_eq_true rfl) dL_law_8 (fun q1 H hP hD hS => ?_)
  have hP : va_P (dC, dI) vwCl [cX5 q0 (u 10) (u 12) (u 0) (u 1) (u 3) (u 14) (u 5) (u 6) (u 7) (0 : Int32) (u 8) (0 : Int32), cX3 (u 10) (u 9) (0 : Int32) (0 : Int32) (u 11) (0 : Int64) (0 : Int64), aI C (u 11) 50 (fun _ => 0), cX3 (u 12) (u 9) (0 : Int32) (0 : Int32) (u 13) (0 : Int64) (0 : Int64), aI C (u 13) 50 (fun _ => 0), aG C (u 0) 2 (fun _ => none), cX4 (u 1) (u 2), aJ C (u 2) 50 (fun _ => 0), cX2 (u 3) (u 4) (0 : Int32), aJ C (u 4) 64 (fun _ => 0), cX1 (u 14) (u 9) (0 : Int64) (0 : Int64) (u 15) (u 16), aJ C (u 15) 9 (fun _ => 0), aJ C (u 16) 1641 (fun _ => 0), aI C (u 5) 147 (fun _ => 0), aI C (u 6) 6 (fun _ => 0), aJ C (u 7) 6 (fun _ => 0), aB C (u 8) 100 (fun _ => 0), cX0 (u 9) u3.1 u3.2.1 u3.2.2.1 u3.2.2.2.1 u3.2.2.2.2.1 u3.2.2.2.2.2.1 u3.2.2.2.2.2.2, (q1, .inr (6, [.int 0, .null, .int 0, .int 0, .long 0, .long 0, .null, .null, .null, .null, .null, .int 0, .null, .int 0, .null, .null, .null, .int 0, .null, .null, .null, .null, .null, .int 0]))] H := hP
  have hD : va_D (fun q : Nat => s.heap.size ≤ q) [cX5 q0 (u 10) (u 12) (u 0) (u 1) (u 3) (u 14) (u 5) (u 6) (u 7) (0 : Int32) (u 8) (0 : Int32), cX3 (u 10) (u 9) (0 : Int32) (0 : Int32) (u 11) (0 : Int64) (0 : Int64), aI C (u 11) 50 (fun _ => 0), cX3 (u 12) (u 9) (0 : Int32) (0 : Int32) (u 13) (0 : Int64) (0 : Int64), aI C (u 13) 50 (fun _ => 0), aG C (u 0) 2 (fun _ => none), cX4 (u 1) (u 2), aJ C (u 2) 50 (fun _ => 0), cX2 (u 3) (u 4) (0 : Int32), aJ C (u 4) 64 (fun _ => 0), cX1 (u 14) (u 9) (0 : Int64) (0 : Int64) (u 15) (u 16), aJ C (u 15) 9 (fun _ => 0), aJ C (u 16) 1641 (fun _ => 0), aI C (u 5) 147 (fun _ => 0), aI C (u 6) 6 (fun _ => 0), aJ C (u 7) 6 (fun _ => 0), aB C (u 8) 100 (fun _ => 0), cX0 (u 9) u3.1 u3.2.1 u3.2.2.1 u3.2.2.2.1 u3.2.2.2.2.1 u3.2.2.2.2.2.1 u3.2.2.2.2.2.2, (q1, .inr (6, [.int 0, .null, .int 0, .int 0, .long 0, .long 0, .null, .null, .null, .null, .null, .int 0, .null, .int 0, .null, .null, .null, .int 0, .null, .null, .null, .null, .null, .int 0]))] := hD
  refine lv_dup hx hb dL_law_11 rfl ?_
  refine wcIA (A := fun q : Nat => s.heap.size ≤ q) (As := []) (rest := [.ref q1]) (mc := 15) (ms := 44050) hc k_L_12 rfl (c_X6_init l (dC, dI) C _ q1 u1 hu1) ⟨rfl, rfl, Nat.le_of_ble_eq_true rfl, Nat.le_of_ble_eq_true rfl⟩ hP hD hS hA hK [18] [0, 1, 2, 3, 4, 5, 6, 7, 8, 9, 10, 11, 12, 13, 14, 15, 16, 17] rfl rfl rfl rfl (by decide) (hP.sub [] rfl) Ap_nil hl rfl rfl (Nat.le_of_ble_eq_true rfl) ⟨(Nat.le_of_ble_eq_true rfl), (Nat.le_of_ble_eq_true rfl)⟩ dL_law_12 (fun v H locs hP hD hS => ?_)
  refine lv_astore_n (lv' := [(2, .ref q1), (1, .ref q0), (0, .ref b)]) hx hb dL_law_15 rfl hl (by decide) rfl (fun ls hl => ?_)
  refine lv_iconst (v := (0 : Int32)) hx hb dL_law_16 (by decide) ?_
  refine lv_istore_n (lv' := [(3, .int 0), (2, .ref q1), (1, .ref q0), (0, .ref b)]) hx hb dL_law_17 rfl hl (by decide) rfl (fun ls hl => ?_)
  obtain ⟨ax, hax⟩ : ∃ ax : Nat → Nat, ax = (fun i => match i with | 0 => q0 | 1 => (u 10) | 2 => (u 11) | 3 => (u 12) | 4 => (u 13) | 5 => (u 0) | 6 => (u 1) | 7 => (u 2) | 8 => (u 3) | 9 => (u 4) | 10 => (u 14) | 11 => (u 15) | 12 => (u 16) | 13 => (u 5) | 14 => (u 6) | 15 => (u 7) | _ => (u 8)) := ⟨_, rfl⟩
  obtain ⟨am, ham⟩ : ∃ am : Nat → Nat, am = (fun i => match i with | 0 => q1 | i + 1 => v i) := ⟨_, rfl⟩
  have hLS : HLS (dC, dI) C s ax am H locs ((0 : Int32), (0 : Int32), (u 9), (0 : Int32), (0 : Int32), (0 : Int64), (0 : Int64), (fun _ => 0), (u 9), (0 : Int32), (0 : Int32), (0 : Int64), (0 : Int64), (fun _ => 0), (fun _ => none), (fun _ => 0), (0 : Int32), (fun _ => 0), (u 9), (0 : Int64), (0 : Int64), (fun _ => 0), (fun _ => 0), (fun _ => 0), (fun _ => 0), (fun _ => 0), (fun _ => 0)) u3 ((5 : Int32), (0 : Int32), (0 : Int32), (0 : Int64), (0 : Int64), (0 : Int32), (0 : Int32), (0 : Int32), (0 : Int32), (fun _ => 0), u1, (fun _ => 0), (fun _ => 0), (fun _ => 0), (fun _ => 0), (fun _ => 0), (fun _ => 0), (fun _ => 0), (fun _ => 0), (fun _ => 0), (fun _ => 0), (fun _ => 0), (fun _ => 0), (fun _ => 0)) none none := by
    subst hax
    subst ham
    have hP2 : va_P (dC, dI) vwCl (wLs C (fun i => match i with | 0 => q0 | 1 => (u 10) | 2 => (u 11) | 3 => (u 12) | 4 => (u 13) | 5 => (u 0) | 6 => (u 1) | 7 => (u 2) | 8 => (u 3) | 9 => (u 4) | 10 => (u 14) | 11 => (u 15) | 12 => (u 16) | 13 => (u 5) | 14 => (u 6) | 15 => (u 7) | _ => (u 8)) (fun i => match i with | 0 => q1 | i + 1 => v i) ((0 : Int32), (0 : Int32), (u 9), (0 : Int32), (0 : Int32), (0 : Int64), (0 : Int64), (fun _ => 0), (u 9), (0 : Int32), (0 : Int32), (0 : Int64), (0 : Int64), (fun _ => 0), (fun _ => none), (fun _ => 0), (0 : Int32), (fun _ => 0), (u 9), (0 : Int64), (0 : Int64), (fun _ => 0), (fun _ => 0), (fun _ => 0), (fun _ => 0), (fun _ => 0), (fun _ => 0)) ((5 : Int32), (0 : Int32), (0 : Int32), (0 : Int64), (0 : Int64), (0 : Int32), (0 : Int32), (0 : Int32), (0 : Int32), (fun _ => 0), u1, (fun _ => 0), (fun _ => 0), (fun _ => 0), (fun _ => 0), (fun _ => 0), (fun _ => 0), (fun _ => 0), (fun _ => 0), (fun _ => 0), (fun _ => 0), (fun _ => 0), (fun _ => 0), (fun _ => 0)) ++ [cBd (u 9) u3]) H := hP.sub [0, 1, 2, 3, 4, 5, 6, 7, 8, 9, 10, 11, 12, 13, 14, 15, 16, 18, 19, 20, 21, 22, 23, 24, 25, 26, 27, 28, 29, 30, 31, 32, 33, 17] rfl
    have hD2 : va_D (fun q : Nat => s.heap.size ≤ q) (wLs C (fun i => match i with | 0 => q0 | 1 => (u 10) | 2 => (u 11) | 3 => (u 12) | 4 => (u 13) | 5 => (u 0) | 6 => (u 1) | 7 => (u 2) | 8 => (u 3) | 9 => (u 4) | 10 => (u 14) | 11 => (u 15) | 12 => (u 16) | 13 => (u 5) | 14 => (u 6) | 15 => (u 7) | _ => (u 8)) (fun i => match i with | 0 => q1 | i + 1 => v i) ((0 : Int32), (0 : Int32), (u 9), (0 : Int32), (0 : Int32), (0 : Int64), (0 : Int64), (fun _ => 0), (u 9), (0 : Int32), (0 : Int32), (0 : Int64), (0 : Int64), (fun _ => 0), (fun _ => none), (fun _ => 0), (0 : Int32), (fun _ => 0), (u 9), (0 : Int64), (0 : Int64), (fun _ => 0), (fun _ => 0), (fun _ => 0), (fun _ => 0), (fun _ => 0), (fun _ => 0)) ((5 : Int32), (0 : Int32), (0 : Int32), (0 : Int64), (0 : Int64), (0 : Int32), (0 : Int32), (0 : Int32), (0 : Int32), (fun _ => 0), u1, (fun _ => 0), (fun _ => 0), (fun _ => 0), (fun _ => 0), (fun _ => 0), (fun _ => 0), (fun _ => 0), (fun _ => 0), (fun _ => 0), (fun _ => 0), (fun _ => 0), (fun _ => 0), (fun _ => 0)) ++ [cBd (u 9) u3]) := hD.sub [0, 1, 2, 3, 4, 5, 6, 7, 8, 9, 10, 11, 12, 13, 14, 15, 16, 18, 19, 20, 21, 22, 23, 24, 25, 26, 27, 28, 29, 30, 31, 32, 33, 17] rfl rfl
    exact ⟨va_P_left hP2, va_D_left hD2, ⟨va_P_right hP2, va_D_apart hD2⟩, hS, rfl, rfl⟩
  refine W.widen (k := 60 + 0) (n := 60000 + 10 * 0) (Nat.le_of_ble_eq_true rfl) (Nat.le_of_ble_eq_true rfl) ?_
  refine law_loop (ax := ax) (am := am) hc hK hT hX hbl hL hAll (L + 1) 0 (Nat.zero_le L) (by omega) H locs _ u3 _ none none hLS (hI (u 9)) ls ?_
  subst hax
  subst ham
  exact lv_sub hl [0, 3, 2, 1] rfl

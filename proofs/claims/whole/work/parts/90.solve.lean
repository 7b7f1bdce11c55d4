/-! solve, duration, winningMoves -/
def InvL (x : SX) (b : BF) (y : SM) (t0 t1 : SS) : Prop := InvR x b y t0 t1 ∧ LI (Y_o_lasts y)
theorem has9 {n : Nat} (s0 s1 : Int64) : m_X5_hasFreeAtMost s0 s1 (full n) 9 = if pc (m_X3_free s0 s1 (full n)) ≤ 9 then 1 else 0 := by
  have hpl := pc_le (m_X3_free s0 s1 (full n))
  unfold m_X5_hasFreeAtMost
  rw [bitcount]
  by_cases q : pc (m_X3_free s0 s1 (full n)) ≤ 9
  · rw [if_pos q, if_neg (show ¬ (9 : Int32) < nI (pc (m_X3_free s0 s1 (full n))) from nI_nlt (a := 9) (by omega) (by decide))]
  · rw [if_neg q, if_pos (show (9 : Int32) < nI (pc (m_X3_free s0 s1 (full n))) from nI_lt (a := 9) (by omega) (by omega))]
theorem lrw_free {n : Nat} (hn : 2 ≤ n ∧ n ≤ 7) {s0 s1 : Int64} (h0 : sub s0 (full n)) (h1 : sub s1 (full n)) (hd : ∀ k, tb s0 k = true → tb s1 k = false) : lrw n s1 = !tbw n (s0 ||| m_X3_free s0 s1 (full n)) := by
  have hA : Asc 0 (HL n (m_X3_free s0 s1 (full n))) := hl_asc _ _ _
  obtain ⟨r1, r2⟩ := dep3_root hA
  have hs := HL_set hn (free_sub hn s0 s1)
  have hc := compl3 hn h0 h1 hd 0
  rw [r1, r2 1 (by decide), r2 2 (by decide), or_zero, or_zero, hs] at hc
  have := hex hn (T := s0 ||| m_X3_free s0 s1 (full n)) (or_sub h0 (free_sub hn s0 s1))
  rw [hc] at this
  exact this
def wmv (n : Nat) (s0 s1 : Int64) (m : Nat) : Int64 := if tbw n s0 = true then 0 else if tbw n (s0 ||| m_X3_free s0 s1 (full n)) = false then 0 else ws (HL n (m_X3_free s0 s1 (full n))) (fun i => decide (bt (V0 n s0 s1 m (kk (decide (m % 2 = 0)) * 3 ^ i)) = decide (m % 2 = 0))) (pc (m_X3_free s0 s1 (full n))) 0 0
theorem wng_loop {n : Nat} (hn : 2 ≤ n ∧ n ≤ 7) {near : Nat → Int64} (hN : Near n near) {s0 s1 : Int64} (h0 : sub s0 (full n)) (h1 : sub s1 (full n)) (hv : vic n s0 s1 = -15) {m : Nat} (hm : m ≤ 60) {l : List Nat} (hl : l.length ≤ 9) {hole power won lasts : Nat → Int32} (hS : Sto l hole) (hp : PWR power) {V : Nat → Nat} (hT : TV V l.length 0 won lasts) : ∀ (d i fuel : Nat) (acc : Int64), i + d = l.length → d + 1 ≤ fuel → m_X6_winning_c4 (nI n) (nI m) s0 s1 (nI l.length) near power won hole fuel acc (nI i) = some (ws l (fun i => decide (bt (V (kk (decide (m % 2 = 0)) * 3 ^ i)) = decide (m % 2 = 0))) d i acc) := by
  have h19 := p39 hl
  intro d
  induction d with
  | zero =>
    intro i fuel acc hi hf
    obtain ⟨fu, rfl⟩ : ∃ f, fuel = f + 1 := ⟨fuel - 1, by omega⟩
    have e : i = l.length := by omega
    subst e
    rw [m_X6_winning_c4, if_pos (nI_le (Nat.le_refl _) (by omega))]
    rfl
  | succ d ih =>
    intro i fuel acc hi hf
    obtain ⟨fu, rfl⟩ : ∃ f, fuel = f + 1 := ⟨fuel - 1, by omega⟩
    have q : i < l.length := by omega
    have hx : l[i]? = some l[i] := List.getElem?_eq_getElem q
    have esp : sp l i = jshl 1 (nI l[i]) := by unfold sp; rw [hx]
    have hkk := kk12 (decide (m % 2 = 0))
    have hlt := code_lt (k := kk (decide (m % 2 = 0))) (by omega) q (dg_z i) (Nat.pow_pos (n := l.length) (show 0 < 3 by decide))
    rw [Nat.zero_add] at hlt
    have ekk : m % 2 + 1 = kk (decide (m % 2 = 0)) := by
      unfold kk
      by_cases z : m % 2 = 0
      · rw [if_pos (decide_eq_true z), z]
      · rw [if_neg (by rw [decide_eq_true_eq]; exact z)]; omega
    have ecode : (jirem (nI m) 2 + 1) * power (nI i).toNatClampNeg = nI (kk (decide (m % 2 = 0)) * 3 ^ i) := by
      rw [irem2 (by omega), nI_clamp (by omega), hp i (by omega), nI_1, pk_mul, ekk]
    have ewo : m % 2 = wo 0 (decide (m % 2 = 0)) := by
      unfold wo
      by_cases z : m % 2 = 0
      · rw [if_pos (decide_eq_true z), z]
      · rw [if_neg (by rw [decide_eq_true_eq]; exact z)]; omega
    rw [m_X6_winning_c4, if_neg (nI_ge q (by omega)), m_winner hn hN h0 h1, bs, if_pos hv, if_pos (okI_nI (by omega) (by decide)), ecode, if_pos (okI_nI (by omega) (by decide)), nI_clamp (by omega), (hT _ hlt).1, irem2 (by omega)]
    unfold m_X6_winning_c63
    rw [nI_1]
    have hw1 := wo_lt (p := 0) (by decide) (bt (V (kk (decide (m % 2 = 0)) * 3 ^ i)))
    show _ = some (ws l _ d (i + 1) (if (fun i => decide (bt (V (kk (decide (m % 2 = 0)) * 3 ^ i)) = decide (m % 2 = 0))) i = true then acc ||| sp l i else acc))
    rw [← ih (i + 1) fu _ (by omega) (by omega)]
    by_cases w : bt (V (kk (decide (m % 2 = 0)) * 3 ^ i)) = decide (m % 2 = 0)
    · rw [if_pos (show nI (wo 0 (bt (V (kk (decide (m % 2 = 0)) * 3 ^ i)))) = nI (m % 2) by rw [w, ← ewo]), if_pos (okI_nI (by omega) (by decide)), nI_clamp (by omega), hS i _ hx, if_pos (decide_eq_true w), esp]
    · rw [if_neg (show ¬ nI (wo 0 (bt (V (kk (decide (m % 2 = 0)) * 3 ^ i)))) = nI (m % 2) from fun z => w (by
        have e := (nI_eq (by omega) (by omega)).mp z
        exact (wo_eq (p := 0) (by decide)).mp (e.trans ewo))), if_neg (by rw [decide_eq_true_eq]; exact w), or_zero]
theorem m_winning {n : Nat} (hn : 2 ≤ n ∧ n ≤ 7) {near : Nat → Int64} (hN : Near n near) {s0 s1 : Int64} (h0 : sub s0 (full n)) (h1 : sub s1 (full n)) (hd : ∀ k, tb s0 k = true → tb s1 k = false) {m : Nat} (hm : m ≤ 60) (hl : pc (m_X3_free s0 s1 (full n)) ≤ 9) {hole power won lasts : Nat → Int32} (hS : Sto (HL n (m_X3_free s0 s1 (full n))) hole) (hp : PWR power) (hT : TV (V0 n s0 s1 m) (pc (m_X3_free s0 s1 (full n))) 0 won lasts) : m_X6_winning (nI n) (nI m) s0 s1 (nI (pc (m_X3_free s0 s1 (full n)))) near power won hole = some (wmv n s0 s1 m) := by
  have hlen := HL_len hn (free_sub hn s0 s1)
  have hlr := lrw_free hn h0 h1 hd
  unfold m_X6_winning
  by_cases hv : vic n s0 s1 = -15
  · have := wng_loop hn hN h0 h1 hv hm (by omega) hS hp (by rw [hlen]; exact hT) (HL n (m_X3_free s0 s1 (full n))).length 0 FU 0 (by omega) (FU_ge (by omega))
    rw [hlen] at this
    have e1 : tbw n s0 = false := by
      cases z : tbw n s0
      · rfl
      · unfold vic at hv; rw [z, if_pos rfl] at hv; exact absurd hv (by decide)
    have e2 : tbw n (s0 ||| m_X3_free s0 s1 (full n)) = true := by
      cases z : tbw n (s0 ||| m_X3_free s0 s1 (full n))
      · rw [z] at hlr
        unfold vic at hv
        rw [e1, hlr, if_neg (show ¬ false = true by decide), if_pos (show (!false) = true from rfl)] at hv
        exact absurd hv (by decide)
      · rfl
    unfold wmv
    rw [e1, e2, if_neg (show ¬ false = true by decide), if_neg (show ¬ true = false by decide)]
    exact this
  · have e0 : wmv n s0 s1 m = 0 := by
      unfold wmv
      cases z : tbw n s0
      · rw [if_neg (show ¬ false = true by decide)]
        cases w : tbw n (s0 ||| m_X3_free s0 s1 (full n))
        · rw [if_pos rfl]
        · exfalso
          rw [w] at hlr
          apply hv
          unfold vic
          rw [z, hlr]
          rfl
      · rw [if_pos rfl]
    obtain ⟨fu, hfu, -⟩ := FU_s
    rw [e0, hfu, m_X6_winning_c4]
    by_cases q : nI (pc (m_X3_free s0 s1 (full n))) ≤ 0
    · rw [if_pos q]
    · rw [if_neg q, m_winner hn hN h0 h1, bs, if_neg hv]
/-- the class's first steps -/
theorem x_set {n : Nat} (hn : 2 ≤ n ∧ n ≤ 7) {P : Int64} (hP : sub P (full n)) (hl : pc P ≤ 9) (fr to : Int64) (spots memo : Nat → Int64) : ∃ spots' memo', m_X1_arrange spots memo fr to P = some (fr, to, spots', memo') ∧ (∀ z, z < 9 → spots' z = sp (HL n P) z) ∧ ∀ own0 conn0, MOK n fr to (HL n P) own0 conn0 memo' := by
  have hA : Asc 0 (HL n P) := hl_asc _ _ _
  obtain ⟨spots', memo', a1, a2, a3⟩ := x_arrange hA (by rw [HL_len hn hP]; exact hl) fr to spots memo
  rw [HL_set hn hP] at a1
  exact ⟨spots', memo', a1, a2, fun _ _ => mok_zero a3⟩
theorem x_mover {m : Nat} (hm : m ≤ 60) : (m_X3_mover (nI m) = 0) ↔ m % 2 = 0 := by
  unfold m_X3_mover
  rw [irem2 (by omega)]
  exact nI_mod2
theorem x_outGame {n : Nat} (hn : 2 ≤ n ∧ n ≤ 7) {s0 s1 : Int64} (h0 : sub s0 (full n)) (hl : pc (m_X3_free s0 s1 (full n)) ≤ 9) {m : Nat} (hm : m ≤ 60) (spots memo : Nat → Int64) : ∃ spots' memo', m_X5_outcomeOfGame (nI m) s0 s1 spots memo (B_size (bdn n)) (B_cells (bdn n)) (B_all (bdn n)) (B_upper (bdn n)) (B_lower (bdn n)) (B_left (bdn n)) (B_right (bdn n)) = some (nI (V0 n s0 s1 m 0), B_upper (bdn n), B_lower (bdn n), spots', memo') := by
  have hP := free_sub hn s0 s1
  obtain ⟨spots', memo', a1, a2, a3⟩ := x_set hn hP hl (B_upper (bdn n)) (B_lower (bdn n)) spots memo
  obtain ⟨memo2, b1, -⟩ := x_result hn (fr := B_upper (bdn n)) (to := B_lower (bdn n)) (own0 := s0) (hl_asc _ _ _ : Asc 0 (HL n (m_X3_free s0 s1 (full n)))) (by rw [HL_len hn hP]; exact hl) (by rw [HL_set hn hP]; exact hP) h0 a2 (decide (m % 2 = 0)) (a3 s0 _)
  rw [HL_set hn hP] at b1
  unfold m_X5_outcomeOfGame
  rw [a1, bs]
  unfold m_X5_outcomeOfGame_c65
  refine ⟨spots', memo2, ?_⟩
  by_cases q : m % 2 = 0
  · rw [if_pos ((x_mover hm).mpr q)]
    rw [show bi (decide (m % 2 = 0)) = 1 by rw [decide_eq_true q]; rfl] at b1
    rw [show m_X3_stonesOf s0 s1 0 = s0 from rfl]
    rw [show m_X1_result (B_upper (bdn n)) (B_lower (bdn n)) spots' memo' (B_size (bdn n)) (B_cells (bdn n)) (B_all (bdn n)) (B_left (bdn n)) (B_right (bdn n)) s0 (m_X3_free s0 s1 (B_all (bdn n))) 1 = _ from b1, bs]
    rfl
  · rw [if_neg (fun w => q ((x_mover hm).mp w))]
    rw [show bi (decide (m % 2 = 0)) = 0 by rw [decide_eq_false q]; rfl] at b1
    rw [show m_X3_stonesOf s0 s1 0 = s0 from rfl]
    rw [show m_X1_result (B_upper (bdn n)) (B_lower (bdn n)) spots' memo' (B_size (bdn n)) (B_cells (bdn n)) (B_all (bdn n)) (B_left (bdn n)) (B_right (bdn n)) s0 (m_X3_free s0 s1 (B_all (bdn n))) 0 = _ from b1, bs]
    rfl
theorem s_solve : S_solve InvL := by
  rintro x b y t0 t1 ⟨⟨n, m, K, hn, rfl, ⟨g1, g2, g3, g4, g5, g6, g7, g8, g9, g10, g11, g12⟩, hN, hR⟩, hL⟩
  obtain ⟨q1, q2, q3, -⟩ := st_ok hn g7 m g6
  have hK := K_le hn g7
  suffices h : ∃ (ox : Int32 × Nat × Int64 × Int64 × (Nat → Int64) × (Nat → Int64)) (oy : Int32 × Int32 × (Nat → Int32) × (Nat → Int32) × (Nat → Int32) × (Nat → Int32)), m_X5_solve (X_o_game_board x) (X_o_game_made x) (X_o_game_stones0 x) (X_o_game_stones1 x) (X_o_contest_board x) (X_o_contest_from x) (X_o_contest_to x) (X_o_contest_spots x) (X_o_contest_memo x) (B_size (bdn n)) (B_cells (bdn n)) (B_all (bdn n)) (B_upper (bdn n)) (B_lower (bdn n)) (B_left (bdn n)) (B_right (bdn n)) = some ox ∧ m_X6_solve (Y_o_n y) (Y_o_made y) (Y_o_own0 y) (Y_o_own1 y) (Y_o_near y) (Y_o_hole y) (Y_o_won y) (Y_o_lasts y) (Y_o_power y) = some oy ∧ ox.1 = oy.1 ∧ LI oy.2.2.2.2.1 by
    obtain ⟨ox, oy, e1, e2, e3, e4⟩ := h
    exact ⟨ox, oy, e1, e2, e3, ⟨n, m, K, hn, rfl, ⟨g1, g2, g3, g4, g5, g6, g7, g8, g9, g10, g11, g12⟩, hN, hR⟩, e4⟩
  rw [g1, g2, g3, g9, g10, g11, g12]
  generalize (st n (X_o_game_list x) m).1 = s0 at *
  generalize (st n (X_o_game_list x) m).2 = s1 at *
  unfold m_X5_solve m_X6_solve
  rw [has9]
  rcases m_solves hn hN q1 q2 q3 (m := m) (by omega) (Y_o_hole y) (Y_o_won y) (Y_o_lasts y) (Y_o_power y) hL with ⟨hp, hole', e⟩ | ⟨hp, hole', won', lasts', power', e, hS, hpw, hT, hL'⟩
  · rw [if_neg (show ¬ pc (m_X3_free s0 s1 (full n)) ≤ 9 by omega), if_pos rfl, e, bs, if_pos rfl]
    exact ⟨_, _, rfl, rfl, rfl, hL⟩
  · obtain ⟨spots', memo', a⟩ := x_outGame hn (s0 := s0) (s1 := s1) q1 hp (m := m) (by omega) (X_o_contest_spots x) (X_o_contest_memo x)
    have hvl := vl_le (n := n) (fr := B_upper (bdn n)) (to := B_lower (bdn n)) (l := HL n (m_X3_free s0 s1 (full n))) (own0 := s0) (conn0 := decide (m % 2 = 0)) (k := 1) (c := 0) (by rw [HL_len hn (free_sub hn s0 s1)]; exact hp)
    have hc : m_X1_connects (nI (V0 n s0 s1 m 0)) = bi (bt (V0 n s0 s1 m 0)) := x_connects (by unfold V0; omega)
    rw [if_pos hp, if_neg one_nz, e, bs, if_neg one_nz, a, bs, hc]
    have hw := (hT 0 (Nat.pow_pos (by decide))).1
    cases z : bt (V0 n s0 s1 m 0)
    · rw [if_pos (show bi false = 0 by decide)]
      rw [z] at hw
      exact ⟨_, _, rfl, rfl, hw.symm, hL'⟩
    · rw [if_neg (show ¬ bi true = 0 by decide)]
      rw [z] at hw
      exact ⟨_, _, rfl, rfl, hw.symm, hL'⟩
theorem s_duration : S_duration InvL := by
  rintro x b y t0 t1 ⟨⟨n, m, K, hn, rfl, ⟨g1, g2, g3, g4, g5, g6, g7, g8, g9, g10, g11, g12⟩, hN, hR⟩, hL⟩
  obtain ⟨q1, q2, q3, -⟩ := st_ok hn g7 m g6
  have hK := K_le hn g7
  suffices h : ∃ (ox : Int32 × Nat × Int64 × Int64 × (Nat → Int64) × (Nat → Int64)) (oy : Int32 × Int32 × (Nat → Int32) × (Nat → Int32) × (Nat → Int32) × (Nat → Int32)), m_X5_duration (X_o_game_board x) (X_o_game_made x) (X_o_game_stones0 x) (X_o_game_stones1 x) (X_o_contest_board x) (X_o_contest_from x) (X_o_contest_to x) (X_o_contest_spots x) (X_o_contest_memo x) (B_size (bdn n)) (B_cells (bdn n)) (B_all (bdn n)) (B_upper (bdn n)) (B_lower (bdn n)) (B_left (bdn n)) (B_right (bdn n)) = some ox ∧ m_X6_duration (Y_o_n y) (Y_o_made y) (Y_o_own0 y) (Y_o_own1 y) (Y_o_near y) (Y_o_hole y) (Y_o_won y) (Y_o_lasts y) (Y_o_power y) = some oy ∧ ox.1 = oy.1 ∧ LI oy.2.2.2.2.1 by
    obtain ⟨ox, oy, e1, e2, e3, e4⟩ := h
    exact ⟨ox, oy, e1, e2, e3, ⟨n, m, K, hn, rfl, ⟨g1, g2, g3, g4, g5, g6, g7, g8, g9, g10, g11, g12⟩, hN, hR⟩, e4⟩
  rw [g1, g2, g3, g9, g10, g11, g12]
  generalize (st n (X_o_game_list x) m).1 = s0 at *
  generalize (st n (X_o_game_list x) m).2 = s1 at *
  unfold m_X5_duration m_X6_duration
  rw [has9]
  rcases m_solves hn hN q1 q2 q3 (m := m) (by omega) (Y_o_hole y) (Y_o_won y) (Y_o_lasts y) (Y_o_power y) hL with ⟨hp, hole', e⟩ | ⟨hp, hole', won', lasts', power', e, hS, hpw, hT, hL'⟩
  · rw [if_neg (show ¬ pc (m_X3_free s0 s1 (full n)) ≤ 9 by omega), if_pos rfl, e, bs, if_pos rfl]
    exact ⟨_, _, rfl, rfl, rfl, hL⟩
  · obtain ⟨spots', memo', a⟩ := x_outGame hn (s0 := s0) (s1 := s1) q1 hp (m := m) (by omega) (X_o_contest_spots x) (X_o_contest_memo x)
    have hvl := vl_le (n := n) (fr := B_upper (bdn n)) (to := B_lower (bdn n)) (l := HL n (m_X3_free s0 s1 (full n))) (own0 := s0) (conn0 := decide (m % 2 = 0)) (k := 1) (c := 0) (by rw [HL_len hn (free_sub hn s0 s1)]; exact hp)
    have hc : m_X1_length (nI (V0 n s0 s1 m 0)) = nI (V0 n s0 s1 m 0 / 2) := x_length _ (by unfold V0; omega)
    rw [if_pos hp, if_neg one_nz, e, bs, if_neg one_nz, a, bs, hc]
    exact ⟨_, _, rfl, rfl, (hT 0 (Nat.pow_pos (by decide))).2.symm, hL'⟩
theorem x_wm {n : Nat} (hn : 2 ≤ n ∧ n ≤ 7) {s0 s1 : Int64} (h0 : sub s0 (full n)) (hl : pc (m_X3_free s0 s1 (full n)) ≤ 9) (m : Nat) {spots memo : Nat → Int64} (hsp : ∀ z, z < 9 → spots z = sp (HL n (m_X3_free s0 s1 (full n))) z) (hM : MOK n (B_upper (bdn n)) (B_lower (bdn n)) (HL n (m_X3_free s0 s1 (full n))) s0 (decide (m % 2 = 0)) memo) : ∃ memo', m_X1_winningSpots (B_upper (bdn n)) (B_lower (bdn n)) spots memo (B_size (bdn n)) (B_cells (bdn n)) (B_all (bdn n)) (B_left (bdn n)) (B_right (bdn n)) s0 (m_X3_free s0 s1 (full n)) (bi (decide (m % 2 = 0))) = some (wmv n s0 s1 m, memo') := by
  have hP := free_sub hn s0 s1
  obtain ⟨memo', e⟩ := x_spots hn (hl_asc _ _ _ : Asc 0 (HL n (m_X3_free s0 s1 (full n)))) (by rw [HL_len hn hP]; exact hl) (by rw [HL_set hn hP]; exact hP) h0 hsp (decide (m % 2 = 0)) hM
  rw [HL_set hn hP, HL_len hn hP] at e
  exact ⟨memo', e⟩
theorem s_winningMoves : S_winningMoves InvL := by
  rintro x b y t0 t1 ⟨⟨n, m, K, hn, rfl, ⟨g1, g2, g3, g4, g5, g6, g7, g8, g9, g10, g11, g12⟩, hN, hR⟩, hL⟩
  obtain ⟨q1, q2, q3, -⟩ := st_ok hn g7 m g6
  have hK := K_le hn g7
  suffices h : ∃ (ox : Int64 × Nat × Int64 × Int64 × (Nat → Int64) × (Nat → Int64)) (oy : Int64 × Int32 × (Nat → Int32) × (Nat → Int32) × (Nat → Int32) × (Nat → Int32)), m_X5_winningMoves (X_o_game_board x) (X_o_game_made x) (X_o_game_stones0 x) (X_o_game_stones1 x) (X_o_contest_board x) (X_o_contest_from x) (X_o_contest_to x) (X_o_contest_spots x) (X_o_contest_memo x) (B_size (bdn n)) (B_cells (bdn n)) (B_all (bdn n)) (B_upper (bdn n)) (B_lower (bdn n)) (B_left (bdn n)) (B_right (bdn n)) = some ox ∧ m_X6_winningMoves (Y_o_n y) (Y_o_made y) (Y_o_own0 y) (Y_o_own1 y) (Y_o_near y) (Y_o_hole y) (Y_o_won y) (Y_o_lasts y) (Y_o_power y) = some oy ∧ ox.1 = oy.1 ∧ LI oy.2.2.2.2.1 by
    obtain ⟨ox, oy, e1, e2, e3, e4⟩ := h
    exact ⟨ox, oy, e1, e2, e3, ⟨n, m, K, hn, rfl, ⟨g1, g2, g3, g4, g5, g6, g7, g8, g9, g10, g11, g12⟩, hN, hR⟩, e4⟩
  rw [g1, g2, g3, g9, g10, g11, g12]
  generalize (st n (X_o_game_list x) m).1 = s0 at *
  generalize (st n (X_o_game_list x) m).2 = s1 at *
  unfold m_X5_winningMoves m_X6_winningMoves
  rw [has9]
  rcases m_solves hn hN q1 q2 q3 (m := m) (by omega) (Y_o_hole y) (Y_o_won y) (Y_o_lasts y) (Y_o_power y) hL with ⟨hp, hole', e⟩ | ⟨hp, hole', won', lasts', power', e, hS, hpw, hT, hL'⟩
  · rw [if_neg (show ¬ pc (m_X3_free s0 s1 (full n)) ≤ 9 by omega), if_pos rfl, e, bs, if_pos rfl]
    exact ⟨_, _, rfl, rfl, rfl, hL⟩
  · obtain ⟨spots', memo', a1, a2, a3⟩ := x_set hn (free_sub hn s0 s1) hp (B_upper (bdn n)) (B_lower (bdn n)) (X_o_contest_spots x) (X_o_contest_memo x)
    obtain ⟨memo2, c1⟩ := x_wm hn q1 hp m a2 (a3 s0 (decide (m % 2 = 0)))
    rw [if_pos hp, if_neg one_nz, e, bs, if_neg one_nz, a1, bs, m_winning hn hN q1 q2 q3 (by omega) hp hS hpw hT, bs]
    unfold m_X5_winningMoves_c78
    rw [show m_X3_stonesOf s0 s1 0 = s0 from rfl]
    by_cases q : m % 2 = 0
    · rw [if_pos ((x_mover (by omega)).mpr q)]
      rw [show bi (decide (m % 2 = 0)) = 1 by rw [decide_eq_true q]; rfl] at c1
      rw [show m_X1_winningSpots (B_upper (bdn n)) (B_lower (bdn n)) spots' memo' (B_size (bdn n)) (B_cells (bdn n)) (B_all (bdn n)) (B_left (bdn n)) (B_right (bdn n)) s0 (m_X3_free s0 s1 (B_all (bdn n))) 1 = _ from c1, bs]
      exact ⟨_, _, rfl, rfl, rfl, hL'⟩
    · rw [if_neg (fun w => q ((x_mover (by omega)).mp w))]
      rw [show bi (decide (m % 2 = 0)) = 0 by rw [decide_eq_false q]; rfl] at c1
      rw [show m_X1_winningSpots (B_upper (bdn n)) (B_lower (bdn n)) spots' memo' (B_size (bdn n)) (B_cells (bdn n)) (B_all (bdn n)) (B_left (bdn n)) (B_right (bdn n)) s0 (m_X3_free s0 s1 (B_all (bdn n))) 0 = _ from c1, bs]
      exact ⟨_, _, rfl, rfl, rfl, hL'⟩

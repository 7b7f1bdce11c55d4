/-! the checksum -/
theorem ite_10 {α : Type} (x y : α) : (if (1 : Int32) = 0 then x else y) = y := if_neg one_nz
abbrev cs74 (n : Nat) (c m : Int32) (s0 s1 : Int64) (f xp : Nat → Int32) (xr : Nat → Int64) := m_X5_checksum_c74 c m s0 s1 f xp xr (B_size (bdn n)) (B_cells (bdn n)) (B_all (bdn n)) (B_upper (bdn n)) (B_lower (bdn n)) (B_left (bdn n)) (B_right (bdn n))
theorem cs_step {n : Nat} (hn : 2 ≤ n ∧ n ≤ 7) {near : Nat → Int64} (hN : Near n near) {s0 s1 : Int64} (h0 : sub s0 (full n)) (h1 : sub s1 (full n)) (hd : ∀ k, tb s0 k = true → tb s1 k = false) {c : Nat} (hc : c ≤ 6) {xp yp : Nat → Int32} {xr yr : Nat → Int64} (he : ∀ k, k < c → xp k = yp k ∧ xr k = yr k) (m : Int32) (f g : Nat → Int32) {p : Int32} (hp : p = 0 ∨ p = 1) (fu : Nat) (h : Int64) (la : Nat → Int64) (fb far back : Nat → Int32) : ∃ h' la' fb' far' back', cs74 n (nI c) m s0 s1 f xp xr (fu + 1) h p la fb = cs74 n (nI c) m s0 s1 f xp xr fu h' (p + 1) la' fb' ∧ m_X6_checksum_c60 (nI n) m s0 s1 (nI c) g near yp yr (fu + 1) h p far back = m_X6_checksum_c60 (nI n) m s0 s1 (nI c) g near yp yr fu h' (p + 1) far' back' := by
  have hp2 : ¬ (2 : Int32) ≤ p := by rcases hp with rfl | rfl <;> decide
  have hp3 : (1 : Int32) - p = 0 ∨ (1 : Int32) - p = 1 := by
    rcases hp with rfl | rfl
    · exact Or.inr rfl
    · exact Or.inl rfl
  have hx : m_X5_isPlayer p = 1 ∧ m_X6_isPlayer p = 1 := by rcases hp with rfl | rfl <;> decide
  obtain ⟨o1, a1, b1⟩ := chains_eq hn hN h0 h1 hd p
  obtain ⟨ox2, oy2, a2, b2, e2, -⟩ := dist_eq hn hN hp h0 h1 la far
  obtain ⟨ox3, oy3, a3, b3, e3⟩ := short_eq hn hN hp h0 h1 ox2.2 oy2.2 back
  obtain ⟨ox4, oy4, a4, b4, e4, -⟩ := dist_eq hn hN hp3 h0 h1 ox3.2 oy3.2.1
  obtain ⟨ox5, oy5, a5, b5, e5⟩ := bridges_eq hn hN p h0 h1 fb
  have a6 := x_threats (xp := xp) (xr := xr) (s0 := s0) (s1 := s1) (p := p) hc
  have b6 := m_threats (xp := xp) (xr := xr) (s0 := s0) (s1 := s1) (p := p) hc he
  have a7 := x_needed (xp := xp) (xr := xr) (s0 := s0) (s1 := s1) (p := p) hc (m_X3_free s0 s1 (full n))
  have b7 := m_need_loop (xp := xp) (xr := xr) (s0 := s0) (s1 := s1) (p := p) hc he c 0 FU (m_X3_free s0 s1 (full n)) (by omega) (FU_ge (by omega))
  refine ⟨m_X6_more (m_X6_more (m_X6_more (m_X6_more (m_X6_more (m_X6_more (m_X6_more (m_X6_more h (m_X6_own s0 s1 p)) o1.toInt64) oy2.1.toInt64) oy3.1) oy4.1.toInt64) oy5.toInt64) (nI (cnv (vt c xp xr p (m_X3_stonesOf s0 s1 (1 - p))) c 0)).toInt64) (if cnv (vt c xp xr p (m_X3_stonesOf s0 s1 (1 - p))) c 0 = 0 then -15 else fvt (vt c xp xr p (m_X3_stonesOf s0 s1 (1 - p))) xr c 0 (m_X3_free s0 s1 (full n))), ox4.2, ox5.2, oy4.2, oy3.2.2, ?_, ?_⟩
  rotate_left
  · rw [m_X6_checksum_c60, if_neg hp2, b1, bs, b2, bs, b3, bs]
    unfold m_X6_cut m_X6_neededOf
    rw [hx.2, if_neg one_nz, b4, bs, bs, b5, bs, b6, free_eq hn]
    show (Option.bind (some _) _) = _
    rw [bs]
    rw [show m_X6_neededOf_c8 s0 s1 (nI c) yp yr p FU (m_X3_free s0 s1 (full n)) 0 = _ from b7, bs]
    rfl
  · show m_X5_checksum_c74 _ _ _ _ _ _ _ _ _ _ _ _ _ _ (fu + 1) h p la fb = _
    rw [m_X5_checksum_c74, if_neg hp2, a1, bs]
    unfold m_X5_distance m_X5_shortest m_X5_cut m_X5_threats m_X5_needed m_X5_stones
    rw [hx.1]
    simp only [ite_10, jlet]
    rw [a2, bs, bs, a3, bs, bs, a4, bs, bs, a5, bs, a6, bs, a7, bs]
    rw [e2, e3, e4, e5]
    rfl
theorem cs_mov {n : Nat} (hn : 2 ≤ n ∧ n ≤ 7) {near : Nat → Int64} (hN : Near n near) {s0 s1 : Int64} (h0 : sub s0 (full n)) (h1 : sub s1 (full n)) {m K : Nat} (hm : m ≤ K) (hK : K ≤ 50) {f g : Nat → Int32} (hg : ∀ k, k < K → g k = f k) (c : Int32) (xp yp : Nat → Int32) (xr yr : Nat → Int64) (la : Nat → Int64) (fb far back : Nat → Int32) : ∀ (d i fuel : Nat) (h : Int64), i + d = m → d + 1 ≤ fuel → ∃ h', m_X5_checksum_c30 c (nI m) s0 s1 f xp xr (B_size (bdn n)) (B_cells (bdn n)) (B_all (bdn n)) (B_upper (bdn n)) (B_lower (bdn n)) (B_left (bdn n)) (B_right (bdn n)) fuel h (nI i) la fb = cs74 n c (nI m) s0 s1 f xp xr FU h' 0 la fb ∧ m_X6_checksum_c22 (nI n) (nI m) s0 s1 c g near yp yr fuel h (nI i) far back = m_X6_checksum_c60 (nI n) (nI m) s0 s1 c g near yp yr FU h' 0 far back := by
  intro d
  induction d with
  | zero =>
    intro i fuel h hi hf
    obtain ⟨fu, rfl⟩ : ∃ f, fuel = f + 1 := ⟨fuel - 1, by omega⟩
    refine ⟨m_X6_more h (vic n s0 s1).toInt64, ?_, ?_⟩
    · rw [m_X5_checksum_c30, if_pos (nI_le (by omega) (by omega))]
      unfold m_X5_winner
      rw [x_victor hn h0 h1, bs, bs]
      rfl
    · rw [m_X6_checksum_c22, if_pos (nI_le (by omega) (by omega)), m_winner hn hN h0 h1, bs]
  | succ d ih =>
    intro i fuel h hi hf
    obtain ⟨fu, rfl⟩ : ∃ f, fuel = f + 1 := ⟨fuel - 1, by omega⟩
    have hmv : m_X5_moveAt (nI m) f (nI i) = some (f i) := by
      unfold m_X5_moveAt
      rw [if_neg (nI_pos (by omega)), if_pos (nI_lt (by omega) (by omega)), x_moveNumber (by omega)]
      rfl
    rw [m_X5_checksum_c30, if_neg (nI_ge (a := i) (b := m) (by omega) (by omega)), hmv, bs, m_X6_checksum_c22, if_neg (nI_ge (a := i) (b := m) (by omega) (by omega)), if_pos (okI_nI (by omega) (by decide)), nI_clamp (by omega), hg i (by omega), nI_1]
    exact ih (i + 1) fu (m_X6_more h (f i).toInt64) (by omega) (by omega)
theorem x_cs {n : Nat} (hn : 2 ≤ n ∧ n ≤ 7) (c m : Int32) (s0 s1 : Int64) (f fb xp : Nat → Int32) (la xr : Nat → Int64) : m_X5_checksum c m s0 s1 f la fb xp xr (B_size (bdn n)) (B_cells (bdn n)) (B_all (bdn n)) (B_upper (bdn n)) (B_lower (bdn n)) (B_left (bdn n)) (B_right (bdn n)) = m_X5_checksum_c30 c m s0 s1 f xp xr (B_size (bdn n)) (B_cells (bdn n)) (B_all (bdn n)) (B_upper (bdn n)) (B_lower (bdn n)) (B_left (bdn n)) (B_right (bdn n)) FU (m_X6_more (m_X6_more 37 (nI n).toInt64) m.toInt64) (nI 0) la fb := by
  unfold m_X5_checksum m_X5_rows m_X5_moves jlet m_X6_more
  rw [bd_size hn, nI_0]
theorem s_checksum : S_checksum InvR := by
  rintro x b y t0 t1 ⟨n, m, K, hn, rfl, ⟨g1, g2, g3, g4, g5, g6, g7, g8, g9, g10, g11, g12⟩, hN, ⟨c, hc, c1, c2, c3⟩, hX, hS0, hS1⟩
  have h50 := K_le hn g7
  obtain ⟨q1, q2, q3, -⟩ := st_ok hn g7 m g6
  suffices h : ∃ (ox : Int64 × (Nat → Int64) × (Nat → Int32)) (oy : Int64 × (Nat → Int32) × (Nat → Int32)), m_X5_checksum (X_o_threatCount x) (X_o_game_made x) (X_o_game_stones0 x) (X_o_game_stones1 x) (X_o_game_list x) (X_o_paths_layers x) (X_o_foundBridges x) (X_o_threatPlayers x) (X_o_threatRegions x) (B_size (bdn n)) (B_cells (bdn n)) (B_all (bdn n)) (B_upper (bdn n)) (B_lower (bdn n)) (B_left (bdn n)) (B_right (bdn n)) = some ox ∧ m_X6_checksum (Y_o_n y) (Y_o_made y) (Y_o_own0 y) (Y_o_own1 y) (Y_o_threatMany y) (Y_o_game y) (Y_o_near y) (Y_o_threatOf y) (Y_o_threatSet y) (Y_o_far y) (Y_o_back y) = some oy ∧ ox.1 = oy.1 by
    obtain ⟨ox, oy, e1, e2, e3⟩ := h
    exact ⟨ox, oy, e1, e2, e3, n, m, K, hn, rfl, ⟨g1, g2, g3, g4, g5, g6, g7, g8, g9, g10, g11, g12⟩, hN, ⟨c, hc, c1, c2, c3⟩, hX, hS0, hS1⟩
  rw [g1, g2, g3, g9, g10, g11, g12, c1, c2]
  unfold m_X6_checksum
  rw [x_cs hn]
  obtain ⟨h1, a1, b1⟩ := cs_mov hn hN q1 q2 g6 h50 g8 (nI c) (X_o_threatPlayers x) (Y_o_threatOf y) (X_o_threatRegions x) (Y_o_threatSet y) (X_o_paths_layers x) (X_o_foundBridges x) (Y_o_far y) (Y_o_back y) m 0 FU (m_X6_more (m_X6_more 37 (nI n).toInt64) (nI m).toInt64) (by omega) (FU_ge (by omega))
  obtain ⟨fu, hfu, hfl⟩ := FU_s
  obtain ⟨fu2, hfu2⟩ : ∃ z, fu = z + 1 := ⟨fu - 1, by omega⟩
  obtain ⟨fu3, hfu3⟩ : ∃ z, fu2 = z + 1 := ⟨fu2 - 1, by omega⟩
  obtain ⟨h2, la2, fb2, far2, back2, a2, b2⟩ := cs_step hn hN q1 q2 q3 hc c3 (nI m) (X_o_game_list x) (Y_o_game y) (p := 0) (Or.inl rfl) (fu2 + 1) h1 (X_o_paths_layers x) (X_o_foundBridges x) (Y_o_far y) (Y_o_back y)
  obtain ⟨h3, la3, fb3, far3, back3, a3, b3⟩ := cs_step hn hN q1 q2 q3 hc c3 (nI m) (X_o_game_list x) (Y_o_game y) (p := 1) (Or.inr rfl) fu2 h2 la2 fb2 far2 back2
  obtain ⟨ox, oy, a4, b4, e4⟩ := answers_eq hn hN g6 g7 g8 fb3
  have a5 : cs74 n (nI c) (nI m) (st n (X_o_game_list x) m).1 (st n (X_o_game_list x) m).2 (X_o_game_list x) (X_o_threatPlayers x) (X_o_threatRegions x) FU h1 0 (X_o_paths_layers x) (X_o_foundBridges x) = some (31 * h3 + ox.1, la3, ox.2) := by
    rw [hfu, hfu2, a2, show (0 : Int32) + 1 = 1 from rfl, a3, show (1 : Int32) + 1 = 2 from rfl]
    rw [hfu3]
    show m_X5_checksum_c74 _ _ _ _ _ _ _ _ _ _ _ _ _ _ (fu3 + 1) h3 2 la3 fb3 = _
    rw [m_X5_checksum_c74, if_pos (by decide), a4]
    rfl
  have b5 : m_X6_checksum_c60 (nI n) (nI m) (st n (X_o_game_list x) m).1 (st n (X_o_game_list x) m).2 (nI c) (Y_o_game y) (Y_o_near y) (Y_o_threatOf y) (Y_o_threatSet y) FU h1 0 (Y_o_far y) (Y_o_back y) = some (31 * h3 + oy, far3, back3) := by
    rw [hfu, hfu2, b2, show (0 : Int32) + 1 = 1 from rfl, b3, show (1 : Int32) + 1 = 2 from rfl]
    rw [hfu3, m_X6_checksum_c60, if_pos (by decide), b4]
    rfl
  rw [a1, a5, ← nI_0, b1, b5]
  exact ⟨_, _, rfl, rfl, by show 31 * h3 + ox.1 = 31 * h3 + oy; rw [e4]⟩

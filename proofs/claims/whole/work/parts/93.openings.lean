/-! winningOpenings -/
theorem free_z (a : Int64) : m_X3_free 0 0 a = a := by
  unfold m_X3_free
  apply tb_ext
  intro k hk
  rw [tb_and, tb_and, tb_not _ hk, tb_zero]
  simp
theorem s_winningOpenings : S_winningOpenings InvL := by
  rintro x b y t0 t1 ⟨⟨n, m, K, hn, rfl, hG, hN, hR⟩, hL⟩ p1
  have stay : m_X6_in p1 2 3 = 0 → ∃ oy : Int64 × Int32 × Int32 × Int64 × Int64 × Int32 × (Nat → Int64) × (Nat → Int32) × (Nat → Int32) × (Nat → Int32) × (Nat → Int32), m_X6_winningOpenings (Y_o_n y) (Y_o_made y) (Y_o_own0 y) (Y_o_own1 y) (Y_o_holes y) (Y_o_game y) (Y_o_near y) (Y_o_hole y) (Y_o_won y) (Y_o_lasts y) (Y_o_power y) p1 = some oy ∧ (-12 : Int64) = oy.1 ∧ oy.2 = (Y_o_n y, Y_o_made y, Y_o_own0 y, Y_o_own1 y, Y_o_holes y, Y_o_near y, Y_o_hole y, Y_o_won y, Y_o_lasts y, Y_o_power y) := by
    intro h
    unfold m_X6_winningOpenings
    rw [if_pos h]
    exact ⟨_, rfl, rfl, rfl⟩
  have fin : ∀ oy : Int64 × Int32 × Int32 × Int64 × Int64 × Int32 × (Nat → Int64) × (Nat → Int32) × (Nat → Int32) × (Nat → Int32) × (Nat → Int32), oy.2 = (Y_o_n y, Y_o_made y, Y_o_own0 y, Y_o_own1 y, Y_o_holes y, Y_o_near y, Y_o_hole y, Y_o_won y, Y_o_lasts y, Y_o_power y) → InvL x (bdn n) (oy.2.1, (Y_o_all y), oy.2.2.1, oy.2.2.2.1, oy.2.2.2.2.1, (Y_o_threatMany y), (Y_o_length y), oy.2.2.2.2.2.1, (Y_o_tellings y), (Y_o_game y), oy.2.2.2.2.2.2.1, (Y_o_kept y), (Y_o_isKept y), (Y_o_threatOf y), (Y_o_threatSet y), (Y_o_text y), (Y_o_far y), (Y_o_back y), oy.2.2.2.2.2.2.2.1, (Y_o_isWon y), oy.2.2.2.2.2.2.2.2.1, oy.2.2.2.2.2.2.2.2.2.1, oy.2.2.2.2.2.2.2.2.2.2, (Y_o_told y)) t0 t1 := by
    intro oy e
    rw [e]
    exact ⟨⟨n, m, K, hn, rfl, hG, hN, hR⟩, hL⟩
  refine ⟨fun h => ?_, fun h1' h2 => ?_, fun h1' h2 => ?_⟩
  · obtain ⟨oy, e1, e2, e3⟩ := stay (in_out (Or.inl h))
    exact ⟨oy, e1, e2, fin oy e3⟩
  · obtain ⟨oy, e1, e2, e3⟩ := stay (in_out (Or.inr (lt_of_nle h2)))
    exact ⟨oy, e1, e2, fin oy e3⟩
  · obtain ⟨j, hj1, hj2, rfl⟩ := rows_j (c := 3) (by decide) h1' h2
    have hj : 2 ≤ j ∧ j ≤ 7 := ⟨hj1, by omega⟩
    obtain ⟨g1, g2, g3, g4, g5, g6, g7, g8, g9, g10, g11, g12⟩ := hG
    have hK := K_le hn g7
    obtain ⟨g, hg, hNg⟩ := m_shapes hj (Y_o_near y)
    obtain ⟨g', hg', hNg'⟩ := m_shapes hn g
    have hgo : m_X6_goes (nI j) (Y_o_game y) 0 = some (0, 0) := m_goes hj (f := fun _ => 0) (m := 0) (by omega) (fun k hk => absurd hk (by omega))
    have hgo' : m_X6_goes (nI n) (Y_o_game y) (nI m) = some (st n (X_o_game_list x) m) := m_goes hn (by omega) (fun k hk => g8 k (by omega))
    have hz : ∀ k, tb 0 k = true → tb 0 k = false := fun k h => by rw [tb_zero] at h; cases h
    have hpc : pc (m_X3_free 0 0 (full j)) ≤ 9 := by
      rw [free_z, pc_full hj]
      have : j = 2 ∨ j = 3 := by omega
      rcases this with rfl | rfl <;> decide
    rcases m_solves hj hNg (s0 := 0) (s1 := 0) (sub_zero _) (sub_zero _) hz (m := 0) (by omega) (Y_o_hole y) (Y_o_won y) (Y_o_lasts y) (Y_o_power y) hL with ⟨hp, -⟩ | ⟨hp, hole', won', lasts', power', e, hS, hpw, hT, hL'⟩
    · omega
    · have hw := m_winning hj hNg (sub_zero _) (sub_zero _) hz (m := 0) (by omega) hp hS hpw hT
      obtain ⟨spots', memo', a1, a2, a3⟩ := x_set hj (sub_refl (full j)) (by rw [free_z] at hpc; exact hpc) (B_upper (bdn j)) (B_lower (bdn j)) (X_o_contest_spots x) (X_o_contest_memo x)
      obtain ⟨memo2, c1⟩ := x_wm hj (s0 := 0) (s1 := 0) (sub_zero _) hpc 0 (spots := spots') (memo := memo') (by rw [free_z]; exact a2) (by rw [free_z]; exact a3 _ _)
      rw [free_z] at c1
      refine ⟨bdn j, (B_upper (bdn j), B_lower (bdn j), spots', memo'), (wmv j 0 0 0, memo2), (wmv j 0 0 0, nI n, nI m, (st n (X_o_game_list x) m).1, (st n (X_o_game_list x) m).2, nI (pc (m_X3_free 0 0 (full j))), g', hole', won', lasts', power'), bd_init hj, a1, c1, ?_, rfl, fun q => ?_⟩
      · unfold m_X6_winningOpenings
        rw [in_in h1' (nlt_of_le h2), if_neg one_nz, hg, bs, hgo, bs]
        rw [show m_X6_solves (nI j) 0 (0, 0).1 (0, 0).2 g (Y_o_hole y) (Y_o_won y) (Y_o_lasts y) (Y_o_power y) = _ from e, bs, if_neg one_nz]
        rw [show m_X6_winning (nI j) 0 (0, 0).1 (0, 0).2 (nI (pc (m_X3_free 0 0 (full j)))) g power' won' hole' = _ from hw, bs]
        unfold m_X6_winningOpenings_c61
        rw [g1, g3, hg', bs, hgo', bs]
      · exact ⟨⟨n, m, K, hn, rfl, ⟨rfl, g2, rfl, g4, g5, g6, g7, g8, g9, g10, rfl, rfl⟩, hNg', hR⟩, hL'⟩

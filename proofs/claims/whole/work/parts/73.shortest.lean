/-! the shortest connections -/
def Mt (L : Nat → Int64) (g : Int64) (t : Nat) : Prop := ∃ k, tb (L t) k = true ∧ tb g k = true
theorem Mt_mono {n : Nat} {e own fr g : Int64} {s t : Nat} (h : s ≤ t) : Mt (Ly n e own fr) g s → Mt (Ly n e own fr) g t
  | ⟨k, h1, h2⟩ => ⟨k, Ly_mono h k h1, h2⟩
def Bk (n : Nat) (e own fr g : Int64) (b k : Nat) : Prop := (tb own k = true ∧ ∀ a, tb (Ly n e own fr a) k = true → Mt (Ly n e own fr) g (a + b)) ∨ (tb fr k = true ∧ 1 ≤ b ∧ ∀ a, tb (Ly n e own fr a) k = true → Mt (Ly n e own fr) g (a + b - 1))
theorem Bk_all {n : Nat} (hn : 2 ≤ n ∧ n ≤ 7) {e own fr g : Int64} (hfr : sub fr (full n)) (hown : sub own (full n)) : ∀ b k, tb (Ly n g own fr b) k = true → Bk n e own fr g b k := by
  intro b
  induction b with
  | zero =>
    refine cl_least hn hown (S := Bk n e own fr g 0) (fun i j hi ha hj => ?_) (fun k h1 h2 => Or.inl ⟨h2, fun a ha => ⟨k, ha, h1⟩⟩)
    left
    refine ⟨hj, fun a hja => ?_⟩
    rcases hi with ⟨i1, i2⟩ | ⟨-, i2, -⟩
    · exact i2 a (Ly_own hn hfr hown a hja (by rw [adj_symm hn]; exact ha) i1)
    · omega
  | succ b ih =>
    have hLb := Ly_sub (e := g) hfr hown b
    have hW : ∀ k, tb (W1 n g fr (Ly n g own fr b)) k = true → Bk n e own fr g (b + 1) k := by
      intro k hk
      unfold W1 at hk
      rw [tb_or, Bool.or_eq_true, tb_and, Bool.and_eq_true, tb_or, Bool.or_eq_true] at hk
      rcases hk with hk | ⟨hk | hk, hf⟩
      · rcases ih k hk with ⟨h1, h2⟩ | ⟨h1, h2, h3⟩
        · exact Or.inl ⟨h1, fun a ha => Mt_mono (by omega) (h2 a ha)⟩
        · exact Or.inr ⟨h1, by omega, fun a ha => Mt_mono (by omega) (h3 a ha)⟩
      · exact Or.inr ⟨hf, by omega, fun a ha => ⟨k, Ly_mono (by omega) k ha, hk⟩⟩
      · obtain ⟨i, ha, hi⟩ := (ar_iff hn hLb k).mp hk
        refine Or.inr ⟨hf, by omega, fun a hka => ?_⟩
        have ha' : adj n k i = true := by rw [adj_symm hn]; exact ha
        rcases ih i hi with ⟨h1, h2⟩ | ⟨h1, h2, h3⟩
        · exact Mt_mono (by omega) (h2 a (Ly_own hn hfr hown a hka ha' h1))
        · exact Mt_mono (by omega) (h3 (a + 1) (Ly_free hn hfr hown a hka ha' h1))
    refine cl_least hn (or_sub (W1_sub hLb hfr) hown) (S := Bk n e own fr g (b + 1)) (fun i j hi ha hj => ?_) (fun k h1 _ => hW k h1)
    rw [tb_or, Bool.or_eq_true] at hj
    rcases hj with hj | hj
    · exact hW j hj
    · refine Or.inl ⟨hj, fun a hja => ?_⟩
      have ha' : adj n j i = true := by rw [adj_symm hn]; exact ha
      rcases hi with ⟨h1, h2⟩ | ⟨h1, h2, h3⟩
      · exact h2 a (Ly_own hn hfr hown a hja ha' h1)
      · exact Mt_mono (by omega) (h3 (a + 1) (Ly_free hn hfr hown a hja ha' h1))
theorem x_short_loop {n : Nat} (hn : 2 ≤ n ∧ n ≤ 7) {s0 s1 e own : Int64} (hfr : sub (m_X3_free s0 s1 (full n)) (full n)) (hown : sub own (full n)) {D : Nat} (hD : D ≤ 49) (layers : Nat → Int64) : ∀ (k fuel : Nat) (set : Int64), k ≤ D → k + 1 ≤ fuel → ∃ r, m_X4_onShortest_c55 s0 s1 (B_size (bdn n)) (B_cells (bdn n)) (B_all (bdn n)) (B_left (bdn n)) (B_right (bdn n)) fuel own e (Ly n e own (m_X3_free s0 s1 (full n)) (D - k)) set (nI k) layers = some (r, layers) ∧ ∀ j, tb r j = true ↔ tb set j = true ∨ ∃ t, 1 ≤ t ∧ t ≤ k ∧ tb (layers t) j = true ∧ tb (Ly n e own (m_X3_free s0 s1 (full n)) (D + 1 - t)) j = true ∧ tb (m_X3_free s0 s1 (full n)) j = true := by
  intro k
  induction k with
  | zero =>
    intro fuel set hk hf
    obtain ⟨fu, rfl⟩ : ∃ f, fuel = f + 1 := ⟨fuel - 1, by omega⟩
    refine ⟨set, ?_, fun j => ⟨Or.inl, ?_⟩⟩
    · rw [m_X4_onShortest_c55, if_pos (by decide)]
    · rintro (h | ⟨t, h1, h2, -⟩)
      · exact h
      · omega
  | succ k ih =>
    intro fuel set hk hf
    obtain ⟨fu, rfl⟩ : ∃ f, fuel = f + 1 := ⟨fuel - 1, by omega⟩
    rw [m_X4_onShortest_c55, if_neg (show ¬ nI (k + 1) < (1 : Int32) from nI_nlt (a := k + 1) (b := 1) (by omega) (by omega)), if_neg (show ¬ (49 : Int32) < nI (k + 1) from nI_nlt (a := 49) (b := k + 1) (by omega) (by decide)), x_nextLayer hn (Ly_sub hfr hown _) hfr hown, bs, if_pos (okI_nI (by omega) (by decide)), nI_clamp (by omega), pk_m1]
    have eL : nx n e own (m_X3_free s0 s1 (full n)) (Ly n e own (m_X3_free s0 s1 (full n)) (D - (k + 1))) = Ly n e own (m_X3_free s0 s1 (full n)) (D - k) := by
      rw [show D - k = D - (k + 1) + 1 by omega]
      rfl
    rw [eL]
    obtain ⟨r, h1, h2⟩ := ih fu (set ||| ((layers (k + 1) &&& Ly n e own (m_X3_free s0 s1 (full n)) (D - k)) &&& m_X3_free s0 s1 (full n))) (by omega) (by omega)
    refine ⟨r, h1, fun j => ?_⟩
    rw [h2 j, tb_or, Bool.or_eq_true, tb_and, Bool.and_eq_true, tb_and, Bool.and_eq_true]
    constructor
    · rintro ((h | ⟨⟨h3, h4⟩, h5⟩) | ⟨t, h3, h4, h5⟩)
      · exact Or.inl h
      · exact Or.inr ⟨k + 1, by omega, by omega, h3, by rw [show D + 1 - (k + 1) = D - k by omega]; exact h4, h5⟩
      · exact Or.inr ⟨t, h3, by omega, h5⟩
    · rintro (h | ⟨t, h3, h4, h5, h6, h7⟩)
      · exact Or.inl (Or.inl h)
      · by_cases q : t = k + 1
        · subst q
          rw [show D + 1 - (k + 1) = D - k by omega] at h6
          exact Or.inl (Or.inr ⟨⟨h5, h6⟩, h7⟩)
        · exact Or.inr ⟨t, h3, by omega, h5, h6, h7⟩
theorem m_short_loop {n : Nat} (hn : 2 ≤ n ∧ n ≤ 7) {s0 s1 : Int64} {D : Nat} (hD : D ≤ 49) {far back : Nat → Int32} {F G : Nat → Nat} (hF : ∀ k, k < n * n → far k = nI (F k) ∧ F k ≤ 100) (hG : ∀ k, k < n * n → back k = nI (G k) ∧ G k ≤ 100) : ∀ (d i fuel : Nat) (set : Int64), i + d = n * n → d + 1 ≤ fuel → ∃ r, m_X6_shortestOf_c35 (nI n) s0 s1 fuel (nI D) set (nI i) far back = some (r, far, back) ∧ ∀ j, tb r j = true ↔ tb set j = true ∨ (i ≤ j ∧ j < n * n ∧ tb (m_X3_free s0 s1 (full n)) j = true ∧ F j + G j = D + 1) := by
  have h49 := nn_lt hn
  intro d
  induction d with
  | zero =>
    intro i fuel set hi hf
    obtain ⟨fu, rfl⟩ : ∃ f, fuel = f + 1 := ⟨fuel - 1, by omega⟩
    refine ⟨set, ?_, fun j => ⟨Or.inl, ?_⟩⟩
    · rw [m_X6_shortestOf_c35, pk_mul, if_pos (nI_le (by omega) (by omega))]
    · rintro (h | ⟨h1, h2, -⟩)
      · exact h
      · omega
  | succ d ih =>
    intro i fuel set hi hf
    obtain ⟨fu, rfl⟩ : ∃ f, fuel = f + 1 := ⟨fuel - 1, by omega⟩
    have hin : i < n * n := by omega
    rw [m_X6_shortestOf_c35, pk_mul, if_neg (nI_ge (a := i) (b := n * n) hin (by omega)), free_eq hn, has_eq _ (by omega)]
    have skip : ¬ (tb (m_X3_free s0 s1 (full n)) i = true ∧ F i + G i = D + 1) → ∃ r, m_X6_shortestOf_c90 (m_X6_shortestOf_c35 (nI n) s0 s1 fu) (nI D) (nI i) set far back = some (r, far, back) ∧ ∀ j, tb r j = true ↔ tb set j = true ∨ (i ≤ j ∧ j < n * n ∧ tb (m_X3_free s0 s1 (full n)) j = true ∧ F j + G j = D + 1) := by
      intro hq
      unfold m_X6_shortestOf_c90 m_X6_shortestOf_c91
      rw [nI_1, or_zero]
      obtain ⟨r, h1, h2⟩ := ih (i + 1) fu set (by omega) (by omega)
      refine ⟨r, h1, fun j => ?_⟩
      rw [h2 j]
      constructor
      · rintro (h | ⟨a, b⟩)
        · exact Or.inl h
        · exact Or.inr ⟨by omega, b⟩
      · rintro (h | ⟨a, b, c⟩)
        · exact Or.inl h
        · by_cases z : j = i
          · subst z; exact absurd c hq
          · exact Or.inr ⟨by omega, b, c⟩
    by_cases hb : tb (m_X3_free s0 s1 (full n)) i = true
    · rw [if_pos hb, if_neg one_nz, if_pos (okI_nI (by omega) (by decide)), if_pos (okI_nI (by omega) (by decide)), nI_clamp (by omega), (hF i hin).1, (hG i hin).1, nI_add, nI_1 D]
      have := (hF i hin).2
      have := (hG i hin).2
      by_cases q : F i + G i = D + 1
      · rw [if_pos (by rw [q])]
        unfold m_X6_shortestOf_c91
        rw [nI_1]
        obtain ⟨r, h1, h2⟩ := ih (i + 1) fu (set ||| jshl 1 (nI i)) (by omega) (by omega)
        refine ⟨r, h1, fun j => ?_⟩
        rw [h2 j, tb_or, Bool.or_eq_true]
        constructor
        · rintro ((h | h) | ⟨a, b⟩)
          · exact Or.inl h
          · rw [tb_one (by omega) (tb_lt64 h)] at h
            rw [of_decide_eq_true h]
            exact Or.inr ⟨by omega, hin, hb, q⟩
          · exact Or.inr ⟨by omega, b⟩
        · rintro (h | ⟨a, b, c⟩)
          · exact Or.inl (Or.inl h)
          · by_cases z : j = i
            · subst z
              exact Or.inl (Or.inr (by rw [tb_one (by omega) (by omega)]; exact decide_eq_true rfl))
            · exact Or.inr ⟨by omega, b, c⟩
      · rw [if_neg (fun z => q ((nI_eq (by omega) (by omega)).mp z))]
        exact skip (fun z => q z.2)
    · rw [if_neg hb, if_pos rfl]
      exact skip (fun z => hb z.1)
theorem short_eq {n : Nat} (hn : 2 ≤ n ∧ n ≤ 7) {s0 s1 : Int64} {near : Nat → Int64} (hN : Near n near) {p : Int32} (hp : p = 0 ∨ p = 1) (h0 : sub s0 (full n)) (h1 : sub s1 (full n)) (layers : Nat → Int64) (far back : Nat → Int32) : ∃ ox oy, m_X4_onShortest layers s0 s1 (B_size (bdn n)) (B_cells (bdn n)) (B_all (bdn n)) (B_upper (bdn n)) (B_lower (bdn n)) (B_left (bdn n)) (B_right (bdn n)) p = some ox ∧ m_X6_shortestOf (nI n) s0 s1 near far back p = some oy ∧ ox.1 = oy.1 := by
  have h49 := nn_lt hn
  obtain ⟨ox, oy, e1, e2, e3, hL, hx⟩ := dist_eq hn hN hp h0 h1 layers far
  unfold m_X4_onShortest m_X6_shortestOf
  rw [e1, e2, bs, bs, e3]
  have hfr := free_sub hn s0 s1
  have hown := own_sub h0 h1 p
  rcases hx with hx | ⟨d, hd, hx, hF, hl⟩
  · rw [← e3, if_pos hx, if_pos hx]
    exact ⟨_, _, rfl, rfl, rfl⟩
  · rw [← e3, hx]
    have hd15 : ¬ nI d = (-15 : Int32) := by
      intro q
      have h2 := nI_toInt (n := d) (by omega)
      rw [q] at h2
      have : (-15 : Int32).toInt = -15 := rfl
      omega
    obtain ⟨ed1, ed2⟩ := m_edges hn hp
    obtain ⟨back', b1, hB⟩ := m_levB hn hN ed2 hown hfr back
    obtain ⟨F, hFF⟩ := Lev_nat hL
    obtain ⟨G, hGG⟩ := Lev_nat hB
    rw [if_neg hd15, if_neg hd15, x_flood hn hown, bs, b1, bs]
    obtain ⟨r, r1, r2⟩ := x_short_loop hn (e := edg2 n p) hfr hown hd ox.2 d FU 0 (Nat.le_refl d) (FU_ge (by omega))
    rw [Nat.sub_self] at r1
    obtain ⟨q, q1, q2⟩ := m_short_loop hn (s0 := s0) (s1 := s1) hd (far := oy.2) (back := back') (F := F) (G := G) (fun k hk => ⟨(hFF k hk).1, by rcases (hFF k hk).2 with ⟨z, -⟩ | ⟨z, -⟩ <;> omega⟩) (fun k hk => ⟨(hGG k hk).1, by rcases (hGG k hk).2 with ⟨z, -⟩ | ⟨z, -⟩ <;> omega⟩) (n * n) 0 FU 0 (by omega) (FU_ge (by omega))
    refine ⟨_, _, r1, q1, ?_⟩
    apply tb_ext
    intro j _
    apply bool_ext
    show tb r j = true ↔ tb q j = true
    rw [r2 j, q2 j, tb_zero]
    have notown : ∀ k, tb (m_X3_free s0 s1 (full n)) k = true → tb (m_X3_stonesOf s0 s1 p) k = true → False := by
      intro k a1 a2
      rw [tb_free hn s0 s1 (tb_lt64 a1)] at a1
      unfold m_X3_stonesOf at a2
      rcases hp with rfl | rfl
      · rw [if_pos rfl] at a2
        rw [a2] at a1
        simp at a1
      · rw [if_neg (by decide)] at a2
        rw [a2] at a1
        simp at a1
    constructor
    · rintro (h | ⟨t, t1, t2, t3, t4, t5⟩)
      · cases h
      · right
        rw [hl t t2] at t3
        have hj := (sub_full hn).mp hfr j t5
        refine ⟨Nat.zero_le j, hj, t5, ?_⟩
        rcases (hFF j hj).2 with ⟨a1, a2, a3⟩ | ⟨-, a⟩
        · rcases (hGG j hj).2 with ⟨c1, c2, c3⟩ | ⟨-, c⟩
          · have h5 : F j ≤ t := by
              rcases Nat.lt_or_ge t (F j) with z | z
              · rw [a3 t z] at t3; cases t3
              · exact z
            have h6 : G j ≤ d + 1 - t := by
              rcases Nat.lt_or_ge (d + 1 - t) (G j) with z | z
              · rw [c3 _ z] at t4; cases t4
              · exact z
            have h7 : d ≤ F j + G j - 1 ∧ 1 ≤ G j := by
              rcases Bk_all hn (e := edg n p) hfr hown (G j) j c2 with ⟨z, -⟩ | ⟨-, z2, z3⟩
              · exact (notown j t5 z).elim
              · refine ⟨?_, z2⟩
                obtain ⟨k, k1, k2⟩ := z3 (F j) a2
                rcases Nat.lt_or_ge (F j + G j - 1) d with y | y
                · have := hF.2 _ y
                  rw [and_eq_zero] at this
                  exact (this k k1 k2).elim
                · exact y
            omega
          · rw [c] at t4; cases t4
        · rw [a] at t3; cases t3
    · rintro (h | ⟨-, hj, hf, hs⟩)
      · cases h
      · right
        rcases (hFF j hj).2 with ⟨a1, a2, a3⟩ | ⟨a1, -⟩
        · rcases (hGG j hj).2 with ⟨c1, c2, c3⟩ | ⟨c1, -⟩
          · have h1F : 1 ≤ F j := by
              rcases Nat.eq_zero_or_pos (F j) with z | z
              · rw [z] at a2
                exact (notown j hf (cl_sub _ _ _ j a2)).elim
              · exact z
            have h1G : 1 ≤ G j := by
              rcases Nat.eq_zero_or_pos (G j) with z | z
              · rw [z] at c2
                exact (notown j hf (cl_sub _ _ _ j c2)).elim
              · exact z
            refine ⟨F j, h1F, by omega, by rw [hl _ (by omega)]; exact a2, ?_, hf⟩
            rw [show d + 1 - F j = G j by omega]
            exact c2
          · omega
        · omega
theorem s_shortest : S_shortest InvR := by
  rintro x b y t0 t1 ⟨n, m, K, hn, rfl, ⟨g1, g2, g3, g4, g5, g6, g7, g8, g9, g10, g11, g12⟩, hN, hR⟩ p1
  obtain ⟨q1, q2, q3, -⟩ := st_ok hn g7 m g6
  unfold m_X5_shortest m_X6_shortest
  rcases player_cases p1 with ⟨a, b⟩ | ⟨a, b, c⟩ <;> rw [a, b]
  · exact ⟨_, _, rfl, rfl, rfl, n, m, K, hn, rfl, ⟨g1, g2, g3, g4, g5, g6, g7, g8, g9, g10, g11, g12⟩, hN, hR⟩
  · obtain ⟨ox, oy, e1, e2, e3⟩ := short_eq hn hN c q1 q2 (X_o_paths_layers x) (Y_o_far y) (Y_o_back y)
    rw [if_neg one_nz, if_neg one_nz, g1, g9, g10, g11, g12, e1, e2]
    exact ⟨_, _, rfl, rfl, e3, n, m, K, hn, rfl, ⟨rfl, g2, g3, g4, g5, g6, g7, g8, rfl, rfl, rfl, rfl⟩, hN, hR⟩

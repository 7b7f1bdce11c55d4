/-! what holds between the two objects -/
def GI (n m K : Nat) (xm xk : Int32) (s0 s1 : Int64) (xl : Nat → Int32) (yn ya ym : Int32) (w0 w1 : Int64) (yl : Nat → Int32) : Prop :=
  yn = nI n ∧ xm = nI m ∧ ym = nI m ∧ xk = nI K ∧ ya = nI K ∧ m ≤ K ∧ Valid n xl K ∧ (∀ k, k < K → yl k = xl k) ∧ s0 = (st n xl m).1 ∧ s1 = (st n xl m).2 ∧ w0 = (st n xl m).1 ∧ w1 = (st n xl m).2
def TI (xc : Int32) (xp : Nat → Int32) (xr : Nat → Int64) (yc : Int32) (yp : Nat → Int32) (yr : Nat → Int64) : Prop := ∃ c, c ≤ 6 ∧ xc = nI c ∧ yc = nI c ∧ ∀ k, k < c → xp k = yp k ∧ xr k = yr k
def XI (xc : Int32) (xt : Nat → Int32) (yc : Int32) (yt : Nat → Int32) : Prop := ∃ c, c ≤ 100 ∧ xc = nI c ∧ yc = nI c ∧ ∀ k, k < c → ∃ a, a < 128 ∧ xt k = nI a ∧ yt k = nI a
def SI (i : Nat) (yk yf : Nat → Int32) (t : SS) : Prop := match t with
  | none => yf i = 0
  | some (_, _, _, (mm, kk, li, s0, s1), bf) => yf i = 1 ∧ ∃ n m K : Nat, (2 ≤ n ∧ n ≤ 7) ∧ bf = bdn n ∧ mm = nI m ∧ kk = nI K ∧ m ≤ K ∧ Valid n li K ∧ s0 = (st n li m).1 ∧ s1 = (st n li m).2 ∧ yk (70 * i) = nI n ∧ yk (70 * i + 1) = nI m ∧ yk (70 * i + 2) = nI K ∧ ∀ j, j < K → yk (70 * i + 3 + j) = li j
def InvR (x : SX) (b : BF) (y : SM) (t0 t1 : SS) : Prop := ∃ n m K : Nat, (2 ≤ n ∧ n ≤ 7) ∧ b = bdn n ∧ GI n m K (X_o_game_made x) (X_o_game_known x) (X_o_game_stones0 x) (X_o_game_stones1 x) (X_o_game_list x) (Y_o_n y) (Y_o_all y) (Y_o_made y) (Y_o_own0 y) (Y_o_own1 y) (Y_o_game y) ∧ Near n (Y_o_near y) ∧ TI (X_o_threatCount x) (X_o_threatPlayers x) (X_o_threatRegions x) (Y_o_threatMany y) (Y_o_threatOf y) (Y_o_threatSet y) ∧ XI (X_o_textLength x) (X_o_text x) (Y_o_length y) (Y_o_text y) ∧ SI 0 (Y_o_kept y) (Y_o_isKept y) t0 ∧ SI 1 (Y_o_kept y) (Y_o_isKept y) t1
/-! numbers, cells, players -/
theorem m_cells {n : Nat} (hn : 2 ≤ n ∧ n ≤ 7) : m_X6_cells (nI n) = full n :=
  n27 (P := fun n => m_X6_cells (nI n) = full n) (by decide +kernel) (by decide +kernel) (by decide +kernel) (by decide +kernel) (by decide +kernel) (by decide +kernel) hn
theorem free_eq {n : Nat} (hn : 2 ≤ n ∧ n ≤ 7) (s0 s1 : Int64) : m_X6_free (nI n) s0 s1 = m_X3_free s0 s1 (full n) := by
  unfold m_X6_free m_X3_free
  rw [m_cells hn]
theorem tb_free {n : Nat} (hn : 2 ≤ n ∧ n ≤ 7) (s0 s1 : Int64) {k : Nat} (hk : k < 64) : tb (m_X3_free s0 s1 (full n)) k = (decide (k < n * n) && !tb s0 k && !tb s1 k) := by
  unfold m_X3_free
  rw [tb_and, tb_and, tb_not _ hk, tb_not _ hk, tb_full hn hk]
theorem in_out {p a c : Int32} (h : p < a ∨ c < p) : m_X6_in p a c = 0 := by
  unfold m_X6_in
  rcases h with h | h
  · rw [if_pos h]
  · rw [if_pos h]; split <;> rfl
theorem in_in {p a c : Int32} (h1 : ¬ p < a) (h2 : ¬ c < p) : m_X6_in p a c = 1 := by
  unfold m_X6_in
  rw [if_neg h1, if_neg h2]
theorem nI_m1 {N : Nat} (h : 0 < N) : nI N - 1 = nI (N - 1) := by
  obtain ⟨k, rfl⟩ : ∃ k, N = k + 1 := ⟨N - 1, by omega⟩
  exact nI_pred k
theorem lt_of_nle {x y : Int32} (h : ¬ x ≤ y) : y < x := by
  rw [Int32.le_iff_toInt_le] at h
  rw [Int32.lt_iff_toInt_lt]
  omega
theorem nlt_of_le {x y : Int32} (h : x ≤ y) : ¬ y < x := by
  rw [Int32.le_iff_toInt_le] at h
  rw [Int32.lt_iff_toInt_lt]
  omega
theorem m1_lt {N : Nat} (h0 : 0 < N) (h : N < 2 ^ 31) {p : Int32} (hp : nI N ≤ p) : nI N - 1 < p := by
  rw [nI_m1 h0, Int32.lt_iff_toInt_lt, nI_toInt (by omega)]
  rw [Int32.le_iff_toInt_le, nI_toInt h] at hp
  omega
theorem in_nI {N j : Nat} (h : N < 2 ^ 31) (hj : j < N) : m_X6_in (nI j) 0 (nI N - 1) = 1 := by
  rw [nI_m1 (by omega)]
  exact in_in (nI_pos (by omega)) (nI_nlt (by omega) (by omega))
theorem cell_cases {n : Nat} (hn : 2 ≤ n ∧ n ≤ 7) (p : Int32) : (m_X5_isCell (B_cells (bdn n)) p = 0 ∧ m_X6_isCell (nI n) p = 0) ∨ ∃ j, j < n * n ∧ p = nI j ∧ m_X5_isCell (B_cells (bdn n)) p = 1 ∧ m_X6_isCell (nI n) p = 1 := by
  have h49 := nn_lt hn
  have h0 : 0 < n * n := Nat.mul_pos (by omega) (by omega)
  unfold m_X5_isCell m_X6_isCell
  rw [bd_cells hn, pk_mul]
  rcases pk_ix p (n := n * n) (by omega) with h | h | ⟨j, hj, rfl⟩
  · left
    rw [if_pos h]
    exact ⟨rfl, in_out (Or.inl h)⟩
  · left
    refine ⟨?_, in_out (Or.inr (m1_lt h0 (by omega) h))⟩
    rw [if_pos h]
    split <;> rfl
  · right
    refine ⟨j, hj, rfl, ?_, in_nI (by omega) hj⟩
    rw [if_neg (nI_pos (by omega)), if_neg (nI_ge hj (by omega))]
theorem player_cases (p : Int32) : (m_X5_isPlayer p = 0 ∧ m_X6_isPlayer p = 0) ∨ (m_X5_isPlayer p = 1 ∧ m_X6_isPlayer p = 1 ∧ (p = 0 ∨ p = 1)) := by
  unfold m_X5_isPlayer m_X6_isPlayer
  rcases pk_ix p (n := 2) (by decide) with h | h | ⟨j, hj, rfl⟩
  · left
    have h0 : ¬ p = 0 := fun e => by subst e; exact absurd h (by decide)
    have h1 : ¬ p = 1 := fun e => by subst e; exact absurd h (by decide)
    rw [if_neg h0, if_neg h1]
    exact ⟨rfl, in_out (Or.inl h)⟩
  · left
    have h0 : ¬ p = 0 := fun e => by subst e; exact absurd h (by decide)
    have h1 : ¬ p = 1 := fun e => by subst e; exact absurd h (by decide)
    rw [if_neg h0, if_neg h1]
    exact ⟨rfl, in_out (Or.inr (m1_lt (N := 2) (by decide) (by decide) h))⟩
  · right
    have : j = 0 ∨ j = 1 := by omega
    rcases this with rfl | rfl
    · exact ⟨by decide, by decide, Or.inl rfl⟩
    · exact ⟨by decide, by decide, Or.inr rfl⟩
theorem own_eq (a b : Int64) (p : Int32) : m_X6_own a b p = m_X3_stonesOf a b p := rfl
theorem isFree_eq {s0 s1 fl : Int64} {j : Nat} (hj : j < 64) : m_X3_isFree s0 s1 fl (nI j) = m_X6_has (m_X3_free s0 s1 fl) (nI j) := by
  rw [has_eq _ hj]
  unfold m_X3_isFree
  have h := and_one (jushr (m_X3_free s0 s1 fl) (nI j))
  rw [tb_ushr _ 0 hj, Nat.add_zero] at h
  by_cases ht : tb (m_X3_free s0 s1 fl) j = true
  · have e := h.2.mpr ht
    rw [if_pos ht, e]
    rfl
  · have hf : tb (m_X3_free s0 s1 fl) j = false := by simpa using ht
    rw [if_neg ht, h.1.mpr hf]
    rfl
theorem one_nz : ¬ (1 : Int32) = 0 := by decide
/-! the plain calls -/
theorem s_rows : S_rows InvR := by
  rintro x b y t0 t1 ⟨n, m, K, hn, rfl, ⟨g1, -⟩, -⟩
  exact ⟨_, _, rfl, rfl, by show B_size (bdn n) = Y_o_n y; rw [bd_size hn, g1]⟩
theorem s_moves : S_moves InvR := by
  rintro x b y t0 t1 ⟨n, m, K, hn, rfl, ⟨g1, g2, g3, -⟩, -⟩
  exact ⟨_, _, rfl, rfl, by show X_o_game_made x = Y_o_made y; rw [g2, g3]⟩
theorem s_turn : S_turn InvR := by
  rintro x b y t0 t1 ⟨n, m, K, hn, rfl, ⟨g1, g2, g3, -⟩, -⟩
  exact ⟨_, _, rfl, rfl, by show jirem (X_o_game_made x) 2 = jirem (Y_o_made y) 2; rw [g2, g3]⟩
theorem s_winner : S_winner InvR := by
  rintro x b y t0 t1 ⟨n, m, K, hn, rfl, ⟨g1, g2, g3, g4, g5, g6, g7, g8, g9, g10, g11, g12⟩, hN, -⟩
  obtain ⟨h1, h2, -⟩ := st_ok hn g7 m g6
  refine ⟨vic n (X_o_game_stones0 x) (X_o_game_stones1 x), vic n (Y_o_own0 y) (Y_o_own1 y), ?_, ?_, by rw [g9, g10, g11, g12]⟩
  · unfold m_X5_winner
    rw [g9, g10, x_victor hn h1 h2]
    rfl
  · unfold m_X6_winner
    rw [g1, g11, g12, m_winner hn hN h1 h2]
    rfl
theorem s_stones : S_stones InvR := by
  rintro x b y t0 t1 ⟨n, m, K, hn, rfl, ⟨g1, g2, g3, g4, g5, g6, g7, g8, g9, g10, g11, g12⟩, -⟩ p1
  refine ⟨_, _, rfl, rfl, ?_⟩
  unfold m_X5_stones m_X6_stones
  rw [g9, g10, g11, g12, own_eq]
  rcases player_cases p1 with ⟨a, b⟩ | ⟨a, b, -⟩ <;> rw [a, b]
theorem s_beside : S_beside InvR := by
  rintro x b y t0 t1 ⟨n, m, K, hn, rfl, ⟨g1, -⟩, hN, -⟩ p1
  have h49 := nn_lt hn
  unfold m_X5_beside m_X6_beside
  rw [g1]
  rcases cell_cases hn p1 with ⟨a, b⟩ | ⟨j, hj, rfl, a, b⟩ <;> rw [a, b]
  · exact ⟨_, _, rfl, rfl, rfl⟩
  · refine ⟨_, nb n j, rfl, ?_, rfl⟩
    rw [if_neg one_nz, if_pos (okI_nI (by omega) (by omega)), nI_clamp (by omega), hN j hj]
theorem s_moveAt : S_moveAt InvR := by
  rintro x b y t0 t1 ⟨n, m, K, hn, rfl, ⟨g1, g2, g3, g4, g5, g6, g7, g8, g9, g10, g11, g12⟩, -⟩ p1
  have h50 := K_le hn g7
  unfold m_X5_moveAt m_X6_moveAt
  rw [g2, g3]
  rcases pk_ix p1 (n := m) (by omega) with h | h | ⟨j, hj, rfl⟩
  · exact ⟨-11, -11, by rw [if_pos h], by rw [in_out (Or.inl h)]; rfl, rfl⟩
  · refine ⟨-11, -11, ?_, ?_, rfl⟩
    · rw [if_neg (nlt_of_le h)]; split <;> rfl
    · by_cases h0 : m = 0
      · subst h0
        rw [show nI 0 - 1 = (-1 : Int32) from rfl, in_out (Or.inr ?_)]
        · rfl
        · rw [Int32.le_iff_toInt_le, nI_toInt (by decide)] at h
          rw [Int32.lt_iff_toInt_lt]
          have : (-1 : Int32).toInt = -1 := rfl
          omega
      · rw [in_out (Or.inr (m1_lt (by omega) (by omega) h))]; rfl
  · refine ⟨X_o_game_list x j, Y_o_game y j, ?_, ?_, (g8 j (by omega)).symm⟩
    · rw [if_neg (nI_pos (by omega)), if_pos (nI_lt hj (by omega)), x_moveNumber (by omega)]; rfl
    · rw [in_nI (by omega) hj, if_neg one_nz, if_pos (okI_nI (by omega) (by omega)), nI_clamp (by omega)]
theorem s_clearThreats : S_clearThreats InvR := by
  rintro x b y t0 t1 ⟨n, m, K, hn, rfl, hG, hN, ⟨c, hc, e1, e2, -⟩, hX, h0, h1⟩
  refine ⟨_, _, rfl, rfl, by show X_o_threatCount x = Y_o_threatMany y; rw [e1, e2], n, m, K, hn, rfl, hG, hN, ⟨0, by omega, rfl, rfl, fun k hk => absurd hk (by omega)⟩, hX, h0, h1⟩
theorem s_clearText : S_clearText InvR := by
  rintro x b y t0 t1 ⟨n, m, K, hn, rfl, hG, hN, hT, ⟨c, hc, e1, e2, -⟩, h0, h1⟩
  refine ⟨_, _, rfl, rfl, by show X_o_textLength x = Y_o_length y; rw [e1, e2], n, m, K, hn, rfl, hG, hN, hT, ⟨0, by omega, rfl, rfl, fun k hk => absurd hk (by omega)⟩, h0, h1⟩
theorem byte128 : ∀ a, a < 128 → vp_nar .byte (nI a).toInt8.toInt32 = nI a := by
  intro a ha
  rw [pk_vb]
  have : ∀ a, a < 128 → (nI a).toInt8.toInt32 = nI a := by decide
  exact this a ha
theorem s_append : S_append InvR := by
  rintro x b y t0 t1 ⟨n, m, K, hn, rfl, hG, hN, hT, ⟨c, hc, e1, e2, ht⟩, h0, h1⟩ p1
  unfold m_X5_append m_X6_append
  rw [e1, e2]
  have same : InvR x (bdn n) y t0 t1 := ⟨n, m, K, hn, rfl, hG, hN, hT, ⟨c, hc, e1, e2, ht⟩, h0, h1⟩
  rcases pk_ix p1 (n := 128) (by decide) with h | h | ⟨j, hj, rfl⟩
  · refine ⟨(-12, nI c, X_o_text x), (-12, nI c, Y_o_text y), by rw [if_pos h], by rw [in_out (Or.inl h)]; rfl, rfl, n, m, K, hn, rfl, hG, hN, hT, ⟨c, hc, rfl, rfl, ht⟩, h0, h1⟩
  · refine ⟨(-12, nI c, X_o_text x), (-12, nI c, Y_o_text y), ?_, ?_, rfl, n, m, K, hn, rfl, hG, hN, hT, ⟨c, hc, rfl, rfl, ht⟩, h0, h1⟩
    · have a1 : ¬ p1 < 0 := fun q => by
        rw [Int32.le_iff_toInt_le, nI_toInt (by decide)] at h
        rw [Int32.lt_iff_toInt_lt] at q
        have : (0 : Int32).toInt = 0 := rfl
        omega
      have a2 : ¬ p1 ≤ (127 : Int32) := fun q => by
        rw [Int32.le_iff_toInt_le, nI_toInt (by decide)] at h
        rw [Int32.le_iff_toInt_le] at q
        have : (127 : Int32).toInt = 127 := rfl
        omega
      rw [if_neg a1, if_neg a2]
    · rw [in_out (Or.inr (show (127 : Int32) < p1 from m1_lt (N := 128) (by decide) (by decide) h))]; rfl
  · have hp : m_X6_in (nI j) 0 127 = 1 := in_nI (N := 128) (by decide) hj
    rw [hp, if_neg (nI_pos (by omega)), if_pos (show nI j ≤ (127 : Int32) from nI_le (a := j) (b := 127) (by omega) (by decide)), if_neg one_nz]
    by_cases hf : c = 100
    · subst hf
      exact ⟨(-14, nI 100, X_o_text x), (-14, nI 100, Y_o_text y), rfl, rfl, rfl, n, m, K, hn, rfl, hG, hN, hT, ⟨100, hc, rfl, rfl, ht⟩, h0, h1⟩
    · have hc100 : ¬ nI c = (100 : Int32) := fun q => hf ((nI_eq (a := c) (b := 100) (by omega) (by decide)).mp q)
      rw [if_pos (show nI c < (100 : Int32) from nI_lt (a := c) (b := 100) (by omega) (by decide)), if_pos (okI_nI (by omega) (by decide)), if_neg hc100, if_pos (okI_nI (by omega) (by decide)), nI_clamp (by omega), nI_1, byte128 j hj]
      refine ⟨_, _, rfl, rfl, rfl, n, m, K, hn, rfl, hG, hN, hT, ⟨c + 1, by omega, rfl, rfl, fun k hk => ?_⟩, h0, h1⟩
      by_cases e : k = c
      · subst e
        exact ⟨j, hj, upd_at _ _ _, upd_at _ _ _⟩
      · obtain ⟨a, ha, q1, q2⟩ := ht k (by omega)
        exact ⟨a, ha, (upd_ne _ _ e).trans q1, (upd_ne _ _ e).trans q2⟩
/-! moves -/
theorem s_play : S_play InvR := by
  rintro x b y t0 t1 ⟨n, m, K, hn, rfl, ⟨g1, g2, g3, g4, g5, g6, g7, g8, g9, g10, g11, g12⟩, hN, hT, hX, h0, h1⟩ p1
  have h49 := nn_lt hn
  obtain ⟨q1, q2, -⟩ := st_ok hn g7 m g6
  unfold m_X5_play m_X6_play
  rw [g1, g2, g3, g4, g5, g9, g10, g11, g12]
  have stay : ∀ r : Int32, ∃ (ox : Int32 × Int32 × Int32 × Int64 × Int64 × (Nat → Int32)) (oy : Int32 × Int32 × Int32 × Int64 × Int64 × (Nat → Int32)), some (r, nI m, nI K, (st n (X_o_game_list x) m).1, (st n (X_o_game_list x) m).2, X_o_game_list x) = some ox ∧ some (r, nI K, nI m, (st n (X_o_game_list x) m).1, (st n (X_o_game_list x) m).2, Y_o_game y) = some oy ∧ ox.1 = oy.1 ∧ GI n m K ox.2.1 ox.2.2.1 ox.2.2.2.1 ox.2.2.2.2.1 ox.2.2.2.2.2 (nI n) oy.2.1 oy.2.2.1 oy.2.2.2.1 oy.2.2.2.2.1 oy.2.2.2.2.2 :=
    fun r => ⟨_, _, rfl, rfl, rfl, rfl, rfl, rfl, rfl, rfl, g6, g7, g8, rfl, rfl, rfl, rfl⟩
  rcases cell_cases hn p1 with ⟨a, b⟩ | ⟨j, hj, rfl, a, b⟩ <;> rw [a, b]
  · obtain ⟨ox, oy, e1, e2, e3, e4⟩ := stay (-11)
    exact ⟨ox, oy, e1, e2, e3, n, m, K, hn, rfl, e4, hN, hT, hX, h0, h1⟩
  · rw [if_neg one_nz, if_neg one_nz, isFree_eq (by omega), free_eq hn, has_eq _ (by omega)]
    by_cases hf : tb (m_X3_free (st n (X_o_game_list x) m).1 (st n (X_o_game_list x) m).2 (full n)) j = true
    · rw [if_pos hf, if_neg one_nz, if_neg one_nz, x_victor hn q1 q2, m_winner hn hN q1 q2]
      show ∃ ox oy, (if vic n _ _ = -15 then _ else _) = some ox ∧ (if vic n _ _ = -15 then _ else _) = some oy ∧ _
      by_cases hw : vic n (st n (X_o_game_list x) m).1 (st n (X_o_game_list x) m).2 = -15
      · rw [if_pos hw, if_pos hw]
        rw [tb_free hn _ _ (by omega)] at hf
        simp only [Bool.and_eq_true, Bool.not_eq_true'] at hf
        have hok : (m = 1 ∧ nI j = -16) ∨ ∃ c, c < n * n ∧ nI j = nI c ∧ tb (st n (X_o_game_list x) m).1 c = false ∧ tb (st n (X_o_game_list x) m).2 c = false := Or.inr ⟨j, hj, rfl, hf.1.2, hf.2⟩
        obtain ⟨hm50, hxa⟩ := x_add hn g7 g6 hok
        rw [bd_size hn, hxa, m_adds hn hm50 (fun k hk => g8 k (by omega))]
        refine ⟨_, _, rfl, rfl, rfl, n, m + 1, m + 1, hn, rfl, ⟨rfl, rfl, rfl, rfl, rfl, Nat.le_refl _, (valid_add g7 g6 hok).1, fun k hk => ?_, rfl, rfl, rfl, rfl⟩, hN, hT, hX, h0, h1⟩
        show upd (Y_o_game y) m (nI j) k = upd (X_o_game_list x) m (nI j) k
        by_cases e : k = m
        · subst e; rw [upd_at, upd_at]
        · rw [upd_ne _ _ e, upd_ne _ _ e]; exact g8 k (by omega)
      · rw [if_neg hw, if_neg hw]
        obtain ⟨ox, oy, e1, e2, e3, e4⟩ := stay (-13)
        exact ⟨ox, oy, e1, e2, e3, n, m, K, hn, rfl, e4, hN, hT, hX, h0, h1⟩
    · rw [if_neg hf, if_pos rfl, if_pos rfl]
      obtain ⟨ox, oy, e1, e2, e3, e4⟩ := stay (-13)
      exact ⟨ox, oy, e1, e2, e3, n, m, K, hn, rfl, e4, hN, hT, hX, h0, h1⟩
theorem low_bit : ∀ c, c < 49 → m_X5_lowest (jshl 1 (nI c)) = nI c := by decide +kernel
theorem nI_one {m : Nat} (h : m < 2 ^ 31) : nI m = 1 ↔ m = 1 := nI_eq (a := m) (b := 1) h (by decide)
theorem s_swap : S_swap InvR := by
  rintro x b y t0 t1 ⟨n, m, K, hn, rfl, ⟨g1, g2, g3, g4, g5, g6, g7, g8, g9, g10, g11, g12⟩, hN, hT, hX, h0, h1⟩
  have h49 := nn_lt hn
  have h50 := K_le hn g7
  unfold m_X5_swap m_X6_swap m_X3_maySwap
  rw [g1, g2, g3, g4, g5, g9, g10, g11, g12]
  by_cases hm : m = 1
  · subst hm
    have hok : (1 = 1 ∧ (-16 : Int32) = -16) ∨ ∃ c, c < n * n ∧ (-16 : Int32) = nI c ∧ tb (st n (X_o_game_list x) 1).1 c = false ∧ tb (st n (X_o_game_list x) 1).2 c = false := Or.inl ⟨rfl, rfl⟩
    obtain ⟨-, hxa⟩ := x_add hn g7 g6 hok
    rw [if_pos (show nI 1 = 1 from rfl), if_neg one_nz, if_pos (show nI 1 = 1 from rfl), bd_size hn, hxa, m_adds hn (by omega) (fun k hk => g8 k (by omega))]
    rcases g7 0 (by omega) with ⟨q, -⟩ | ⟨c, hc, e, -, -⟩
    · omega
    · obtain ⟨d, hd, ed⟩ := swc_lt hn hc
      have e2 : (st n (upd (X_o_game_list x) 1 (-16)) 2).2 = jshl 1 (nI d) := by
        unfold st
        rw [upd_at, if_pos rfl, upd_ne _ _ (by omega), e, ed]
      show ∃ ox oy, some (m_X5_lowest (m_X3_stonesOf _ (st n (upd (X_o_game_list x) 1 (-16)) (1 + 1)).2 1), nI (1 + 1), nI (1 + 1), _, _, _) = some ox ∧ (if nI n = 0 then none else if nI n = 0 then none else some (jirem (upd (Y_o_game y) 1 (-16) (0 : Int32).toNatClampNeg) (nI n) * nI n + upd (Y_o_game y) 1 (-16) (0 : Int32).toNatClampNeg / nI n, _, _, _, _, _)) = some oy ∧ _
      rw [if_neg (nI_nz hn), if_neg (nI_nz hn)]
      refine ⟨_, _, rfl, rfl, ?_, n, 2, 2, hn, rfl, ⟨rfl, rfl, rfl, rfl, rfl, Nat.le_refl _, (valid_add g7 g6 hok).1, fun k hk => ?_, rfl, rfl, rfl, rfl⟩, hN, hT, hX, h0, h1⟩
      · show m_X5_lowest (st n (upd (X_o_game_list x) 1 (-16)) 2).2 = swc n (upd (Y_o_game y) 1 (-16) 0)
        rw [e2, low_bit d (by omega), upd_ne _ _ (by omega), g8 0 (by omega), e, ed]
      · show upd (Y_o_game y) 1 (-16) k = upd (X_o_game_list x) 1 (-16) k
        by_cases e : k = 1
        · subst e; rw [upd_at, upd_at]
        · rw [upd_ne _ _ e, upd_ne _ _ e]; exact g8 k (by omega)
  · have hne : ¬ nI m = 1 := fun q => hm ((nI_one (by omega)).mp q)
    rw [if_neg hne, if_pos rfl, if_neg hne]
    exact ⟨_, _, rfl, rfl, rfl, n, m, K, hn, rfl, ⟨rfl, rfl, rfl, rfl, rfl, g6, g7, g8, rfl, rfl, rfl, rfl⟩, hN, hT, hX, h0, h1⟩
theorem s_takeBack : S_takeBack InvR := by
  rintro x b y t0 t1 ⟨n, m, K, hn, rfl, ⟨g1, g2, g3, g4, g5, g6, g7, g8, g9, g10, g11, g12⟩, hN, hT, hX, h0, h1⟩
  have h50 := K_le hn g7
  unfold m_X5_takeBack m_X6_takeBack
  rw [g1, g2, g3, g4, g9, g10, g11, g12]
  by_cases hm : m = 0
  · subst hm
    rw [if_pos nI_0, if_pos nI_0]
    exact ⟨_, _, rfl, rfl, rfl, n, 0, K, hn, rfl, ⟨rfl, rfl, rfl, rfl, g5, g6, g7, g8, rfl, rfl, rfl, rfl⟩, hN, hT, hX, h0, h1⟩
  · obtain ⟨k, rfl⟩ : ∃ k, m = k + 1 := ⟨m - 1, by omega⟩
    have hne : ¬ nI (k + 1) = 0 := nI_ne0 (by omega) (by omega)
    rw [if_neg hne, if_neg hne, bd_size hn, x_undo hn g7 g6, nI_pred, m_goes hn (f := X_o_game_list x) (by omega) (fun j hj => g8 j (by omega))]
    exact ⟨_, _, rfl, rfl, rfl, n, k, K, hn, rfl, ⟨rfl, rfl, rfl, rfl, g5, by omega, g7, g8, rfl, rfl, rfl, rfl⟩, hN, hT, hX, h0, h1⟩
theorem s_again : S_again InvR := by
  rintro x b y t0 t1 ⟨n, m, K, hn, rfl, ⟨g1, g2, g3, g4, g5, g6, g7, g8, g9, g10, g11, g12⟩, hN, hT, hX, h0, h1⟩
  have h50 := K_le hn g7
  unfold m_X5_again m_X6_again
  rw [g1, g2, g3, g4, g5, g9, g10, g11, g12]
  by_cases hm : m = K
  · subst hm
    rw [if_pos rfl, if_pos rfl]
    exact ⟨_, _, rfl, rfl, rfl, n, m, m, hn, rfl, ⟨rfl, rfl, rfl, rfl, rfl, g6, g7, g8, rfl, rfl, rfl, rfl⟩, hN, hT, hX, h0, h1⟩
  · have hne : ¬ nI m = nI K := fun q => hm ((nI_eq (by omega) (by omega)).mp q)
    rw [if_neg hne, if_neg hne, bd_size hn, x_redo hn g7 (by omega), nI_1, m_goes hn (f := X_o_game_list x) (by omega) (fun j hj => g8 j (by omega))]
    exact ⟨_, _, rfl, rfl, rfl, n, m + 1, K, hn, rfl, ⟨rfl, rfl, rfl, rfl, rfl, by omega, g7, g8, rfl, rfl, rfl, rfl⟩, hN, hT, hX, h0, h1⟩

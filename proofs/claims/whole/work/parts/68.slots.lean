/-! begin, save, restore -/
theorem valid_congr {n : Nat} {f g : Nat → Int32} {K : Nat} (h : ∀ k, k < K → g k = f k) (hv : Valid n f K) : Valid n g K := by
  intro k hk
  unfold MoveOk
  rw [st_congr k (fun j hj => h j (by omega)), h k hk]
  exact hv k hk
theorem copy_loop {p : Nat → Int32} {mm kk : Int32} {s0 s1 : Int64} : ∀ (d i fuel : Nat) (f : Nat → Int32), i + d = 50 → d + 1 ≤ fuel → (∀ k, k < i → f k = p k) → ∃ g, m_X3_copyFrom_c42 p fuel (nI i) mm kk s0 s1 f = some (mm, kk, s0, s1, g) ∧ ∀ k, k < 50 → g k = p k := by
  intro d
  induction d with
  | zero =>
    intro i fuel f hi hf h0
    obtain ⟨fu, rfl⟩ : ∃ f, fuel = f + 1 := ⟨fuel - 1, by omega⟩
    refine ⟨f, ?_, fun k hk => h0 k (by omega)⟩
    rw [m_X3_copyFrom_c42, if_pos (show (50 : Int32) ≤ nI i from nI_le (a := 50) (b := i) (by omega) (by omega))]
  | succ d ih =>
    intro i fuel f hi hf h0
    obtain ⟨fu, rfl⟩ : ∃ f, fuel = f + 1 := ⟨fuel - 1, by omega⟩
    rw [m_X3_copyFrom_c42, if_neg (show ¬ (50 : Int32) ≤ nI i from nI_ge (a := i) (b := 50) (by omega) (by decide)), if_pos (okI_nI (by omega) (by decide)), if_pos (okI_nI (by omega) (by decide)), nI_clamp (by omega), nI_1]
    refine ih (i + 1) fu _ (by omega) (by omega) (fun k hk => ?_)
    by_cases e : k = i
    · subst e; rw [upd_at]
    · rw [upd_ne _ _ e]; exact h0 k (by omega)
theorem x_copy (f p : Nat → Int32) (mm kk : Int32) (s0 s1 : Int64) : ∃ g, m_X3_copyFrom f mm kk s0 s1 p = some (mm, kk, s0, s1, g) ∧ ∀ k, k < 50 → g k = p k :=
  copy_loop 50 0 FU f (by omega) (FU_ge (by omega)) (fun k hk => absurd hk (by omega))
theorem rows_j {p : Int32} {c : Nat} (hc : c ≤ 7) (h1 : ¬ p < (2 : Int32)) (h2 : p ≤ nI c) : ∃ j, 2 ≤ j ∧ j ≤ c ∧ p = nI j := by
  rw [Int32.lt_iff_toInt_lt] at h1
  rw [Int32.le_iff_toInt_le, nI_toInt (by omega)] at h2
  have e2 : (2 : Int32).toInt = 2 := rfl
  refine ⟨p.toInt.toNat, by omega, by omega, ?_⟩
  apply Int32.toInt_inj.mp
  rw [nI_toInt (by omega)]
  omega
theorem s_begin : S_begin InvR := by
  rintro x b y t0 t1 ⟨n, m, K, hn, rfl, hG, hN, hT, hX, h0, h1⟩ p1
  have stay : m_X6_in p1 2 7 = 0 → ∃ oy : Int32 × Int32 × Int32 × Int32 × Int64 × Int64 × Int32 × (Nat → Int64), m_X6_begin (Y_o_n y) (Y_o_all y) (Y_o_made y) (Y_o_own0 y) (Y_o_own1 y) (Y_o_threatMany y) (Y_o_game y) (Y_o_near y) p1 = some oy ∧ (-12 : Int32) = oy.1 ∧ oy.2 = (Y_o_n y, Y_o_all y, Y_o_made y, Y_o_own0 y, Y_o_own1 y, Y_o_threatMany y, Y_o_near y) := by
    intro h
    unfold m_X6_begin
    rw [if_pos h]
    exact ⟨_, rfl, rfl, rfl⟩
  have fin : ∀ oy : Int32 × Int32 × Int32 × Int32 × Int64 × Int64 × Int32 × (Nat → Int64), oy.2 = (Y_o_n y, Y_o_all y, Y_o_made y, Y_o_own0 y, Y_o_own1 y, Y_o_threatMany y, Y_o_near y) → InvR x (bdn n) (oy.2.1, oy.2.2.1, oy.2.2.2.1, oy.2.2.2.2.1, oy.2.2.2.2.2.1, oy.2.2.2.2.2.2.1, (Y_o_length y), (Y_o_holes y), (Y_o_tellings y), (Y_o_game y), oy.2.2.2.2.2.2.2, (Y_o_kept y), (Y_o_isKept y), (Y_o_threatOf y), (Y_o_threatSet y), (Y_o_text y), (Y_o_far y), (Y_o_back y), (Y_o_hole y), (Y_o_isWon y), (Y_o_won y), (Y_o_lasts y), (Y_o_power y), (Y_o_told y)) t0 t1 := by
    intro oy e
    rw [e]
    exact ⟨n, m, K, hn, rfl, hG, hN, hT, hX, h0, h1⟩
  refine ⟨fun h => ?_, fun h1' h2 => ?_, fun h1' h2 => ?_⟩
  · obtain ⟨oy, e1, e2, e3⟩ := stay (in_out (Or.inl h))
    exact ⟨oy, e1, e2, fin oy e3⟩
  · obtain ⟨oy, e1, e2, e3⟩ := stay (in_out (Or.inr (lt_of_nle h2)))
    exact ⟨oy, e1, e2, fin oy e3⟩
  · obtain ⟨j, hj1, hj2, rfl⟩ := rows_j (c := 7) (Nat.le_refl 7) h1' h2
    have hj : 2 ≤ j ∧ j ≤ 7 := ⟨hj1, hj2⟩
    obtain ⟨g, hg, hNg⟩ := m_shapes hj (Y_o_near y)
    have hgo : m_X6_goes (nI j) (Y_o_game y) 0 = some (st j (fun _ => 0) 0) := m_goes hj (f := fun _ => 0) (m := 0) (by omega) (fun k hk => absurd hk (by omega))
    refine ⟨bdn j, (Y_o_n y, nI j, 0, 0, 0, 0, 0, g), bd_init hj, ?_, by show B_size (bdn n) = Y_o_n y; rw [bd_size hn, hG.1], fun q => ?_⟩
    · unfold m_X6_begin
      rw [in_in h1' (nlt_of_le h2), if_neg one_nz, hg, bs, hgo]
      rfl
    · exact ⟨j, 0, 0, hj, rfl, ⟨rfl, rfl, rfl, rfl, rfl, Nat.le_refl 0, fun k hk => absurd hk (by omega), fun k hk => absurd hk (by omega), rfl, rfl, rfl, rfl⟩, hNg, ⟨0, by omega, rfl, rfl, fun k hk => absurd hk (by omega)⟩, hX, h0, h1⟩
theorem s_init : S_init InvR := by
  have h5 : 2 ≤ 5 ∧ 5 ≤ 7 := by omega
  obtain ⟨g, hg, hNg⟩ := m_shapes h5 (fun _ => 0)
  refine ⟨bdn 5, g, bd_init h5, hg, fun q => ?_⟩
  exact ⟨5, 0, 0, h5, rfl, ⟨rfl, rfl, rfl, rfl, rfl, Nat.le_refl 0, fun k hk => absurd hk (by omega), fun k hk => absurd hk (by omega), rfl, rfl, rfl, rfl⟩, hNg, ⟨0, by omega, rfl, rfl, fun k hk => absurd hk (by omega)⟩, ⟨0, by omega, rfl, rfl, fun k hk => absurd hk (by omega)⟩, rfl, rfl⟩
theorem save_loop {K m i : Nat} (hK : K ≤ 50) (hi : i < 2) {g isK : Nat → Int32} : ∀ (d j fuel : Nat) (kp : Nat → Int32), j + d = K → d + 1 ≤ fuel → (∀ k, k < j → kp (70 * i + 3 + k) = g k) → ∃ kp2, m_X6_save_c53 (nI K) (nI m) g (nI i) fuel (nI (70 * i)) (nI j) kp isK = some (nI m, kp2, upd isK i 1) ∧ (∀ k, k < K → kp2 (70 * i + 3 + k) = g k) ∧ ∀ q, (q < 70 * i + 3 ∨ 70 * i + 3 + K ≤ q) → kp2 q = kp q := by
  intro d
  induction d with
  | zero =>
    intro j fuel kp hj hf h0
    obtain ⟨fu, rfl⟩ : ∃ f, fuel = f + 1 := ⟨fuel - 1, by omega⟩
    refine ⟨kp, ?_, fun k hk => h0 k (by omega), fun q _ => rfl⟩
    rw [m_X6_save_c53, if_pos (nI_le (by omega) (by omega)), if_pos (okI_nI hi (by decide)), nI_clamp (by omega)]
    rfl
  | succ d ih =>
    intro j fuel kp hj hf h0
    obtain ⟨fu, rfl⟩ : ∃ f, fuel = f + 1 := ⟨fuel - 1, by omega⟩
    have e3 : nI (70 * i) + 3 + nI j = nI (70 * i + 3 + j) := by
      rw [show nI (70 * i) + (3 : Int32) = nI (70 * i + 3) from nI_add (70 * i) 3, nI_add]
    rw [m_X6_save_c53, if_neg (nI_ge (a := j) (b := K) (by omega) (by omega)), if_pos (okI_nI (by omega) (by decide)), e3, if_pos (okI_nI (by omega) (by decide)), nI_clamp (by omega), nI_clamp (by omega), nI_1]
    obtain ⟨kp2, a1, a2, a3⟩ := ih (j + 1) fu (upd kp (70 * i + 3 + j) (g j)) (by omega) (by omega) (fun k hk => by
      by_cases e : k = j
      · subst e; rw [upd_at]
      · rw [upd_ne _ _ (by omega)]; exact h0 k (by omega))
    refine ⟨kp2, a1, a2, fun q hq => ?_⟩
    rw [a3 q hq, upd_ne _ _ (by omega)]
theorem m_save {n m K i : Nat} (hK : K ≤ 50) (hi : i < 2) {g kp isK : Nat → Int32} : ∃ kp2, m_X6_save (nI n) (nI K) (nI m) g kp isK (nI i) = some (nI m, kp2, upd isK i 1) ∧ kp2 (70 * i) = nI n ∧ kp2 (70 * i + 1) = nI m ∧ kp2 (70 * i + 2) = nI K ∧ (∀ k, k < K → kp2 (70 * i + 3 + k) = g k) ∧ ∀ q, (q < 70 * i ∨ 70 * i + 3 + K ≤ q) → kp2 q = kp q := by
  have e0 : (70 : Int32) * nI i = nI (70 * i) := pk_mul 70 i
  have e1 : nI (70 * i) + (1 : Int32) = nI (70 * i + 1) := nI_1 _
  have e2 : nI (70 * i) + (2 : Int32) = nI (70 * i + 2) := nI_add (70 * i) 2
  obtain ⟨kp2, a1, a2, a3⟩ := save_loop (m := m) (g := g) (isK := isK) hK hi K 0 FU (upd (upd (upd kp (70 * i) (nI n)) (70 * i + 1) (nI m)) (70 * i + 2) (nI K)) (by omega) (FU_ge (by omega)) (fun k hk => absurd hk (by omega))
  refine ⟨kp2, ?_, ?_, ?_, ?_, a2, fun q hq => ?_⟩
  · unfold m_X6_save
    rw [show m_X6_in (nI i) 0 1 = 1 from in_nI (N := 2) (by decide) hi, if_neg one_nz, e0, e1, e2, if_pos (okI_nI (by omega) (by decide)), if_pos (okI_nI (by omega) (by decide)), if_pos (okI_nI (by omega) (by decide)), nI_clamp (by omega), nI_clamp (by omega), nI_clamp (by omega)]
    exact a1
  · rw [a3 _ (by omega), upd_ne _ _ (by omega), upd_ne _ _ (by omega), upd_at]
  · rw [a3 _ (by omega), upd_ne _ _ (by omega), upd_at]
  · rw [a3 _ (by omega), upd_at]
  · rw [a3 _ (by omega), upd_ne _ _ (by omega), upd_ne _ _ (by omega), upd_ne _ _ (by omega)]
theorem SI_keep {i : Nat} (hi : i < 2) {kp kp2 f f2 : Nat → Int32} {t : SS} (h : SI i kp f t) (hk : ∀ q, 70 * i ≤ q → q < 70 * i + 70 → kp2 q = kp q) (hf : f2 i = f i) : SI i kp2 f2 t := by
  rcases t with _ | ⟨g, l9, bd, ⟨mm, kk, li, s0, s1⟩, bf⟩
  · show f2 i = 0
    rw [hf]
    exact h
  · obtain ⟨h1, n, m, K, hn, a1, a2, a3, a4, a5, a6, a7, a8, a9, a10, a11⟩ := h
    have := K_le hn a5
    exact ⟨by rw [hf]; exact h1, n, m, K, hn, a1, a2, a3, a4, a5, a6, a7, by rw [hk _ (by omega) (by omega)]; exact a8, by rw [hk _ (by omega) (by omega)]; exact a9, by rw [hk _ (by omega) (by omega)]; exact a10, fun j hj => by rw [hk _ (by omega) (by omega)]; exact a11 j hj⟩
theorem s_save : S_save InvR := by
  rintro x b y t0 t1 ⟨n, m, K, hn, rfl, ⟨g1, g2, g3, g4, g5, g6, g7, g8, g9, g10, g11, g12⟩, hN, hT, hX, h0, h1⟩ p1
  have h50 := K_le hn g7
  have bad : m_X6_in p1 0 1 = 0 → m_X6_save (Y_o_n y) (Y_o_all y) (Y_o_made y) (Y_o_game y) (Y_o_kept y) (Y_o_isKept y) p1 = some (-11, Y_o_kept y, Y_o_isKept y) := by
    intro h
    unfold m_X6_save
    rw [if_pos h]
  have hI : InvR x (bdn n) y t0 t1 := ⟨n, m, K, hn, rfl, ⟨g1, g2, g3, g4, g5, g6, g7, g8, g9, g10, g11, g12⟩, hN, hT, hX, h0, h1⟩
  have hGI : GI n m K (X_o_game_made x) (X_o_game_known x) (X_o_game_stones0 x) (X_o_game_stones1 x) (X_o_game_list x) (Y_o_n y) (Y_o_all y) (Y_o_made y) (Y_o_own0 y) (Y_o_own1 y) (Y_o_game y) := ⟨g1, g2, g3, g4, g5, g6, g7, g8, g9, g10, g11, g12⟩
  refine ⟨fun h => ?_, fun _ h => ?_, fun h => ?_, fun h => ?_⟩
  · exact ⟨_, bad (in_out (Or.inl h)), rfl, hI⟩
  · refine ⟨_, bad (in_out (Or.inr ?_)), rfl, hI⟩
    exact m1_lt (N := 2) (by decide) (by decide) (by
      rw [Int32.lt_iff_toInt_lt] at h
      rw [Int32.le_iff_toInt_le, nI_toInt (by decide)]
      have : (2 : Int32).toInt = 2 := rfl
      omega)
  · subst h
    obtain ⟨g, hg, hgk⟩ := x_copy (kli t0) (X_o_game_list x) (X_o_game_made x) (X_o_game_known x) (X_o_game_stones0 x) (X_o_game_stones1 x)
    obtain ⟨kp2, a1, a2, a3, a4, a5, a6⟩ := m_save (n := n) (m := m) (i := 0) h50 (by omega) (g := Y_o_game y) (kp := Y_o_kept y) (isK := Y_o_isKept y)
    refine ⟨_, (nI m, kp2, upd (Y_o_isKept y) 0 1), hg, by rw [g1, g3, g5]; exact a1, by rw [g2], fun gg l9 sl => ?_⟩
    refine ⟨n, m, K, hn, rfl, hGI, hN, hT, hX, ?_, SI_keep (by omega) h1 (fun q q1 q2 => a6 q (by omega)) (upd_ne (Y_o_isKept y) (k := 0) (j := 1) 1 (by omega))⟩
    refine ⟨upd_at (Y_o_isKept y) 0 1, n, m, K, hn, rfl, g2, g4, g6, valid_congr (fun k hk => hgk k (by omega)) g7, ?_, ?_, a2, a3, a4, fun j hj => ?_⟩
    · show X_o_game_stones0 x = (st n g m).1
      rw [g9, st_congr m (fun k hk => hgk k (by omega))]
    · show X_o_game_stones1 x = (st n g m).2
      rw [g10, st_congr m (fun k hk => hgk k (by omega))]
    · show kp2 (70 * 0 + 3 + j) = g j
      rw [a5 j hj, g8 j hj, hgk j (by omega)]
  · subst h
    obtain ⟨g, hg, hgk⟩ := x_copy (kli t1) (X_o_game_list x) (X_o_game_made x) (X_o_game_known x) (X_o_game_stones0 x) (X_o_game_stones1 x)
    obtain ⟨kp2, a1, a2, a3, a4, a5, a6⟩ := m_save (n := n) (m := m) (i := 1) h50 (by omega) (g := Y_o_game y) (kp := Y_o_kept y) (isK := Y_o_isKept y)
    refine ⟨_, (nI m, kp2, upd (Y_o_isKept y) 1 1), hg, by rw [g1, g3, g5]; exact a1, by rw [g2], fun gg l9 sl => ?_⟩
    refine ⟨n, m, K, hn, rfl, hGI, hN, hT, hX, SI_keep (by omega) h0 (fun q q1 q2 => a6 q (by omega)) (upd_ne (Y_o_isKept y) (k := 1) (j := 0) 1 (by omega)), ?_⟩
    refine ⟨upd_at (Y_o_isKept y) 1 1, n, m, K, hn, rfl, g2, g4, g6, valid_congr (fun k hk => hgk k (by omega)) g7, ?_, ?_, a2, a3, a4, fun j hj => ?_⟩
    · show X_o_game_stones0 x = (st n g m).1
      rw [g9, st_congr m (fun k hk => hgk k (by omega))]
    · show X_o_game_stones1 x = (st n g m).2
      rw [g10, st_congr m (fun k hk => hgk k (by omega))]
    · show kp2 (70 * 1 + 3 + j) = g j
      rw [a5 j hj, g8 j hj, hgk j (by omega)]
theorem rest_loop {n m K i : Nat} (hn : 2 ≤ n ∧ n ≤ 7) (hK : K ≤ 50) (hm : m ≤ K) (hi : i < 2) {kp f : Nat → Int32} (hkp : ∀ k, k < K → kp (70 * i + 3 + k) = f k) {w0 w1 : Int64} {tm : Int32} {near : Nat → Int64} : ∀ (d j fuel : Nat) (g : Nat → Int32), j + d = K → d + 1 ≤ fuel → (∀ k, k < j → g k = f k) → ∃ g2 nr, m_X6_restore_c65 kp fuel (nI (70 * i)) (nI j) (nI n) (nI K) (nI m) w0 w1 tm g near = some (nI m, nI n, nI K, nI m, (st n f m).1, (st n f m).2, 0, g2, nr) ∧ Near n nr ∧ ∀ k, k < K → g2 k = f k := by
  intro d
  induction d with
  | zero =>
    intro j fuel g hj hf h0
    obtain ⟨fu, rfl⟩ : ∃ f, fuel = f + 1 := ⟨fuel - 1, by omega⟩
    obtain ⟨nr, q1, q2⟩ := m_shapes hn near
    refine ⟨g, nr, ?_, q2, fun k hk => h0 k (by omega)⟩
    rw [m_X6_restore_c65, if_pos (nI_le (by omega) (by omega)), q1, bs, m_goes hn (f := f) (by omega) (fun k hk => h0 k (by omega))]
    rfl
  | succ d ih =>
    intro j fuel g hj hf h0
    obtain ⟨fu, rfl⟩ : ∃ f, fuel = f + 1 := ⟨fuel - 1, by omega⟩
    have e3 : nI (70 * i) + 3 + nI j = nI (70 * i + 3 + j) := by
      rw [show nI (70 * i) + (3 : Int32) = nI (70 * i + 3) from nI_add (70 * i) 3, nI_add]
    rw [m_X6_restore_c65, if_neg (nI_ge (a := j) (b := K) (by omega) (by omega)), e3, if_pos (okI_nI (by omega) (by decide)), if_pos (okI_nI (by omega) (by decide)), nI_clamp (by omega), nI_clamp (by omega), nI_1, hkp j (by omega)]
    exact ih (j + 1) fu (upd g j (f j)) (by omega) (by omega) (fun k hk => by
      by_cases e : k = j
      · subst e; rw [upd_at]
      · rw [upd_ne _ _ e]; exact h0 k (by omega))
theorem m_restore {n m K i : Nat} (hn : 2 ≤ n ∧ n ≤ 7) (hK : K ≤ 50) (hm : m ≤ K) (hi : i < 2) {kp f isK g : Nat → Int32} (h0 : kp (70 * i) = nI n) (h1 : kp (70 * i + 1) = nI m) (h2 : kp (70 * i + 2) = nI K) (hkp : ∀ k, k < K → kp (70 * i + 3 + k) = f k) (hf : isK i = 1) {a1 a2 a3 tm : Int32} {w0 w1 : Int64} {near : Nat → Int64} : ∃ g2 nr, m_X6_restore a1 a2 a3 w0 w1 tm g near kp isK (nI i) = some (nI m, nI n, nI K, nI m, (st n f m).1, (st n f m).2, 0, g2, nr) ∧ Near n nr ∧ ∀ k, k < K → g2 k = f k := by
  have e0 : (70 : Int32) * nI i = nI (70 * i) := pk_mul 70 i
  have e1 : nI (70 * i) + (1 : Int32) = nI (70 * i + 1) := nI_1 _
  have e2 : nI (70 * i) + (2 : Int32) = nI (70 * i + 2) := nI_add (70 * i) 2
  unfold m_X6_restore
  rw [show m_X6_in (nI i) 0 1 = 1 from in_nI (N := 2) (by decide) hi, if_neg one_nz, if_pos (okI_nI hi (by decide)), nI_clamp (by omega), hf, if_neg one_nz, e0, e1, e2, if_pos (okI_nI (by omega) (by decide)), if_pos (okI_nI (by omega) (by decide)), if_pos (okI_nI (by omega) (by decide)), nI_clamp (by omega), nI_clamp (by omega), nI_clamp (by omega), h0, h1, h2]
  exact rest_loop hn hK hm hi hkp K 0 FU g (by omega) (FU_ge (by omega)) (fun k hk => absurd hk (by omega))
theorem s_restore : S_restore InvR := by
  rintro x b y t0 t1 ⟨n, m, K, hn, rfl, hG, hN, hT, hX, h0, h1⟩ p1
  have bad : m_X6_in p1 0 1 = 0 → m_X6_restore (Y_o_n y) (Y_o_all y) (Y_o_made y) (Y_o_own0 y) (Y_o_own1 y) (Y_o_threatMany y) (Y_o_game y) (Y_o_near y) (Y_o_kept y) (Y_o_isKept y) p1 = some (-11, Y_o_n y, Y_o_all y, Y_o_made y, Y_o_own0 y, Y_o_own1 y, Y_o_threatMany y, Y_o_game y, Y_o_near y) := by
    intro h
    unfold m_X6_restore
    rw [if_pos h]
  have no : ∀ i, i < 2 → Y_o_isKept y i = 0 → m_X6_restore (Y_o_n y) (Y_o_all y) (Y_o_made y) (Y_o_own0 y) (Y_o_own1 y) (Y_o_threatMany y) (Y_o_game y) (Y_o_near y) (Y_o_kept y) (Y_o_isKept y) (nI i) = some (-13, Y_o_n y, Y_o_all y, Y_o_made y, Y_o_own0 y, Y_o_own1 y, Y_o_threatMany y, Y_o_game y, Y_o_near y) := by
    intro i hi h
    unfold m_X6_restore
    rw [show m_X6_in (nI i) 0 1 = 1 from in_nI (N := 2) (by decide) hi, if_neg one_nz, if_pos (okI_nI hi (by decide)), nI_clamp (by omega), h, if_pos rfl]
  have hI : InvR x (bdn n) y t0 t1 := ⟨n, m, K, hn, rfl, hG, hN, hT, hX, h0, h1⟩
  refine ⟨fun h => ?_, fun _ h => ?_, fun h => ?_, fun h => ?_⟩
  · exact ⟨_, bad (in_out (Or.inl h)), rfl, hI⟩
  · refine ⟨_, bad (in_out (Or.inr ?_)), rfl, hI⟩
    exact m1_lt (N := 2) (by decide) (by decide) (by
      rw [Int32.lt_iff_toInt_lt] at h
      rw [Int32.le_iff_toInt_le, nI_toInt (by decide)]
      have : (2 : Int32).toInt = 2 := rfl
      omega)
  · subst h
    refine ⟨fun ht => ?_, fun g l9 bd mm kk li s0 s1 bf ht => ?_⟩
    · subst ht
      exact ⟨_, no 0 (by omega) h0, rfl, hI⟩
    · have h0' := h0
      rw [ht] at h0'
      obtain ⟨q1, n2, m2, K2, hn2, rfl, rfl, rfl, hm2, hv2, rfl, rfl, b1, b2, b3, b4⟩ := h0'
      have hK2 := K_le hn2 hv2
      obtain ⟨gg, hg, hgk⟩ := x_copy (X_o_game_list x) li (nI m2) (nI K2) (st n2 li m2).1 (st n2 li m2).2
      obtain ⟨g2, nr, r1, r2, r3⟩ := m_restore hn2 hK2 hm2 (i := 0) (by omega) b1 b2 b3 b4 q1 (g := Y_o_game y) (a1 := Y_o_n y) (a2 := Y_o_all y) (a3 := Y_o_made y) (tm := Y_o_threatMany y) (w0 := Y_o_own0 y) (w1 := Y_o_own1 y) (near := Y_o_near y)
      refine ⟨_, _, hg, r1, rfl, n2, m2, K2, hn2, rfl, ⟨rfl, rfl, rfl, rfl, rfl, hm2, valid_congr (fun k hk => hgk k (by omega)) hv2, fun k hk => ?_, ?_, ?_, ?_, ?_⟩, r2, ⟨0, by omega, rfl, rfl, fun k hk => absurd hk (by omega)⟩, hX, h0, h1⟩
      · show g2 k = gg k
        rw [r3 k hk, hgk k (by omega)]
      · show (st n2 li m2).1 = (st n2 gg m2).1
        rw [st_congr m2 (fun k hk => hgk k (by omega))]
      · show (st n2 li m2).2 = (st n2 gg m2).2
        rw [st_congr m2 (fun k hk => hgk k (by omega))]
      · show (st n2 li m2).1 = (st n2 gg m2).1
        rw [st_congr m2 (fun k hk => hgk k (by omega))]
      · show (st n2 li m2).2 = (st n2 gg m2).2
        rw [st_congr m2 (fun k hk => hgk k (by omega))]
  · subst h
    refine ⟨fun ht => ?_, fun g l9 bd mm kk li s0 s1 bf ht => ?_⟩
    · subst ht
      exact ⟨_, no 1 (by omega) h1, rfl, hI⟩
    · have h0' := h1
      rw [ht] at h0'
      obtain ⟨q1, n2, m2, K2, hn2, rfl, rfl, rfl, hm2, hv2, rfl, rfl, b1, b2, b3, b4⟩ := h0'
      have hK2 := K_le hn2 hv2
      obtain ⟨gg, hg, hgk⟩ := x_copy (X_o_game_list x) li (nI m2) (nI K2) (st n2 li m2).1 (st n2 li m2).2
      obtain ⟨g2, nr, r1, r2, r3⟩ := m_restore hn2 hK2 hm2 (i := 1) (by omega) b1 b2 b3 b4 q1 (g := Y_o_game y) (a1 := Y_o_n y) (a2 := Y_o_all y) (a3 := Y_o_made y) (tm := Y_o_threatMany y) (w0 := Y_o_own0 y) (w1 := Y_o_own1 y) (near := Y_o_near y)
      refine ⟨_, _, hg, r1, rfl, n2, m2, K2, hn2, rfl, ⟨rfl, rfl, rfl, rfl, rfl, hm2, valid_congr (fun k hk => hgk k (by omega)) hv2, fun k hk => ?_, ?_, ?_, ?_, ?_⟩, r2, ⟨0, by omega, rfl, rfl, fun k hk => absurd hk (by omega)⟩, hX, h0, h1⟩
      · show g2 k = gg k
        rw [r3 k hk, hgk k (by omega)]
      · show (st n2 li m2).1 = (st n2 gg m2).1
        rw [st_congr m2 (fun k hk => hgk k (by omega))]
      · show (st n2 li m2).2 = (st n2 gg m2).2
        rw [st_congr m2 (fun k hk => hgk k (by omega))]
      · show (st n2 li m2).1 = (st n2 gg m2).1
        rw [st_congr m2 (fun k hk => hgk k (by omega))]
      · show (st n2 li m2).2 = (st n2 gg m2).2
        rw [st_congr m2 (fun k hk => hgk k (by omega))]

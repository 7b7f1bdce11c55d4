/-! random games -/
theorem nI_long {a : Nat} (h : a < 2 ^ 31) : (nI a).toInt64 = lN a := by
  apply Int64.toInt_inj.mp
  rw [Int32.toInt_toInt64, nI_toInt h, pk_lT (by omega)]
theorem lN_int {a : Nat} (h : a < 2 ^ 31) : (lN a).toInt32 = nI a := by
  rw [← nI_long h, Int32.toInt32_toInt64]
theorem pos_long {p : Int32} (h : ¬ p < 0) : ∃ S, S < 2 ^ 31 ∧ p.toInt64 = lN S := by
  have h1 : 0 ≤ p.toInt := by
    rw [Int32.lt_iff_toInt_lt] at h
    have : (0 : Int32).toInt = 0 := rfl
    omega
  have h2 := Int32.toInt_lt p
  refine ⟨p.toInt.toNat, by omega, ?_⟩
  apply Int64.toInt_inj.mp
  rw [Int32.toInt_toInt64, pk_lT (by omega)]
  omega
def lcg (S : Nat) : Nat := (S * 1103515245 + 12345) % 2147483648
theorem x_lcg {S : Nat} (h : S < 2 ^ 31) : jlrem (lN S * 1103515245 + 12345) 2147483648 = lN (lcg S) := by
  rw [show (1103515245 : Int64) = lN 1103515245 from rfl, show (12345 : Int64) = lN 12345 from rfl, show (2147483648 : Int64) = lN 2147483648 from rfl, lN_mul, lN_add]
  exact pk_lRem (by omega) (by decide) (by decide)
theorem lcg_lt (S : Nat) : lcg S < 2 ^ 31 := Nat.mod_lt _ (by decide)
theorem x_q {S : Nat} (h : S < 2 ^ 31) : lN S / 65536 = lN (S / 65536) := pk_lDiv (a := S) (b := 65536) (by omega) (by decide) (by decide)
theorem nth_eq : ∀ (d i fuel r : Nat) (v : Int64), i + d = r → r < 100 → d < pc v → d + 1 ≤ fuel → ∃ l, l < 64 ∧ tb v l = true ∧ m_X5_cellWithNumber_c5 (nI r) fuel v (nI i) = some (jshl 1 (nI l)) ∧ m_X6_nth_c5 (nI r) fuel v (nI i) = some (nI l) := by
  intro d
  induction d with
  | zero =>
    intro i fuel r v hi hr hp hf
    obtain ⟨fu, rfl⟩ : ∃ f, fuel = f + 1 := ⟨fuel - 1, by omega⟩
    have hne : ¬ v = 0 := fun e => by rw [e, pc_zero] at hp; omega
    obtain ⟨l, hl⟩ := low_ex hne
    refine ⟨l, hl.1, hl.2.1, ?_, ?_⟩
    · rw [m_X5_cellWithNumber_c5, if_pos (nI_le (by omega) (by omega)), low_iso hl]
    · rw [m_X6_nth_c5, if_pos (nI_le (by omega) (by omega)), m_lowest hl]; rfl
  | succ d ih =>
    intro i fuel r v hi hr hp hf
    obtain ⟨fu, rfl⟩ : ∃ f, fuel = f + 1 := ⟨fuel - 1, by omega⟩
    have hne : ¬ v = 0 := fun e => by rw [e, pc_zero] at hp; omega
    obtain ⟨l, hl⟩ := low_ex hne
    have hpc := pc_clear hl
    obtain ⟨k, k1, k2, k3, k4⟩ := ih (i + 1) fu r (v &&& (v - 1)) (by omega) hr (by omega) (by omega)
    refine ⟨k, k1, and_sub_l _ _ k k2, ?_, ?_⟩
    · rw [m_X5_cellWithNumber_c5, if_neg (nI_ge (a := i) (b := r) (by omega) (by omega)), nI_1, k3]
    · rw [m_X6_nth_c5, if_neg (nI_ge (a := i) (b := r) (by omega) (by omega)), nI_1, k4]
theorem pc_unset {v : Int64} {l : Nat} (hl : l < 64) (h : tb v l = true) : pc v = pc (v &&& (jshl 1 (nI l) ^^^ (-1))) + 1 := by
  have h1 := pc_or_bit (x := v &&& (jshl 1 (nI l) ^^^ (-1))) (c := l) hl (by rw [tb_and, tb_not _ hl, tb_one hl hl]; simp)
  rw [← h1]
  congr 1
  apply tb_ext
  intro k hk
  rw [tb_or, tb_and, tb_not _ hk, tb_one hl hk]
  by_cases q : k = l
  · subst q; simp [h]
  · simp [q]
theorem rg_inn {n : Nat} (hn : 2 ≤ n ∧ n ≤ 7) {near : Nat → Int64} (hN : Near n near) (k36 k26 : Int64 → Int32 → Int32 → Option Int32) {c g : Nat} : ∀ (d fuel S : Nat) (own fr : Int64) (t : Int32), pc fr = d → d + 1 ≤ fuel → S < 2 ^ 31 → sub own (full n) → sub fr (full n) → ∃ S' c', S' < 2 ^ 31 ∧ c' ≤ c + 1 ∧ m_X5_randomGames_c77 (B_size (bdn n)) (B_cells (bdn n)) (B_all (bdn n)) (B_upper (bdn n)) (B_lower (bdn n)) (B_left (bdn n)) (B_right (bdn n)) k36 fuel (lN S) (nI c) (nI g) own fr t (nI (pc fr)) = k36 (lN S') (nI c') (nI (g + 1)) ∧ m_X6_randomGames_c52 (nI n) near k26 fuel (lN S) (nI c) (nI g) fr own t = k26 (lN S') (nI c') (nI (g + 1)) := by
  intro d
  induction d with
  | zero =>
    intro fuel S own fr t hd hf hS ho hfr
    obtain ⟨fu, rfl⟩ : ∃ f, fuel = f + 1 := ⟨fuel - 1, by omega⟩
    have e : fr = 0 := by
      rcases Classical.em (fr = 0) with q | q
      · exact q
      · have := pc_pos q; omega
    rw [m_X5_randomGames_c77, m_X6_randomGames_c52, hd, if_pos (show nI 0 ≤ (0 : Int32) by decide), if_pos e, x_linked hn ho, m_wins0 hn hN ho, bs, bs]
    unfold m_X5_randomGames_c171 m_X6_randomGames_c147 tbw
    rw [nI_1, nI_1, show nI c + (0 : Int32) = nI c from Int32.add_zero _]
    by_cases q : lk n own (B_upper (bdn n)) (B_lower (bdn n)) = true
    · rw [if_pos q, if_neg one_nz, if_neg one_nz]
      exact ⟨S, c + 1, hS, by omega, rfl, rfl⟩
    · rw [if_neg q, if_pos rfl, if_pos rfl]
      exact ⟨S, c, hS, by omega, rfl, rfl⟩
  | succ d ih =>
    intro fuel S own fr t hd hf hS ho hfr
    obtain ⟨fu, rfl⟩ : ∃ f, fuel = f + 1 := ⟨fuel - 1, by omega⟩
    have hpl := pc_le fr
    have hne : ¬ fr = 0 := fun e => by rw [e, pc_zero] at hd; omega
    have hlt := lcg_lt S
    have hq : lcg S / 65536 % pc fr < pc fr := Nat.mod_lt _ (by omega)
    obtain ⟨l, l1, l2, l3, l4⟩ := nth_eq (lcg S / 65536 % pc fr) 0 FU (lcg S / 65536 % pc fr) fr (by omega) (by omega) hq (FU_ge (by omega))
    have hln := (sub_full hn).mp hfr l l2
    have e1 : (jlrem (lN (lcg S) / 65536) (nI (pc fr)).toInt64).toInt32 = nI (lcg S / 65536 % pc fr) := by
      rw [x_q hlt, nI_long (by omega)]
      rw [show jlrem (lN (lcg S / 65536)) (lN (pc fr)) = lN (lcg S / 65536 % pc fr) from pk_lRem (by omega) (by omega) (by omega)]
      exact lN_int (by omega)
    have e2 : jirem ((lN (lcg S) / 65536).toInt32) (nI (pc fr)) = nI (lcg S / 65536 % pc fr) := by
      rw [x_q hlt, lN_int (by omega)]
      exact pk_rem (by omega) (by omega) (by omega)
    have hz : ¬ (nI (pc fr)).toInt64 = 0 := by
      rw [nI_long (by omega)]
      intro q
      have := (pk_lEQ (a := pc fr) (b := 0) (by omega) (by decide)).mp q
      omega
    rw [m_X5_randomGames_c77, m_X6_randomGames_c52, if_neg (nI_nle (by omega) (by omega)), if_neg hz, if_neg hne, m_size, bs, if_neg (nI_ne0 (by omega) (by omega)), x_lcg hS, e1, e2]
    rw [show m_X5_cellWithNumber fr (nI (lcg S / 65536 % pc fr)) = some (jshl 1 (nI l)) from l3, show m_X6_nth fr (nI (lcg S / 65536 % pc fr)) = some (nI l) from l4, bs, bs]
    have hpu := pc_unset l1 l2
    have hfr' : sub (fr &&& (jshl 1 (nI l) ^^^ (-1))) (full n) := sub_trans (and_sub_l _ _) hfr
    unfold m_X5_randomGames_c139 m_X6_randomGames_c118
    rw [hpu, pk_m1]
    by_cases q : t = 0
    · rw [if_pos q, if_pos q]
      exact ih fu (lcg S) (own ||| jshl 1 (nI l)) _ (1 - t) (by omega) (by omega) hlt (or_sub ho (sub_bit hn hln)) hfr'
    · rw [if_neg q, if_neg q, or_zero]
      exact ih fu (lcg S) own _ (1 - t) (by omega) (by omega) hlt ho hfr'
theorem rg_out {n : Nat} (hn : 2 ≤ n ∧ n ≤ 7) {near : Nat → Int64} (hN : Near n near) {s0 s1 : Int64} (h0 : sub s0 (full n)) (m : Int32) {G : Nat} (hG : G ≤ 50) : ∀ (d g fuel S c : Nat), g + d = G → d + 1 ≤ fuel → S < 2 ^ 31 → ∃ o, m_X5_randomGames_c36 m s0 s1 (B_size (bdn n)) (B_cells (bdn n)) (B_all (bdn n)) (B_upper (bdn n)) (B_lower (bdn n)) (B_left (bdn n)) (B_right (bdn n)) (nI G) fuel (lN S) (nI c) (nI g) = some o ∧ m_X6_randomGames_c26 (nI n) m s0 s1 near (nI G) fuel (lN S) (nI c) (nI g) = some o := by
  intro d
  induction d with
  | zero =>
    intro g fuel S c hg hf hS
    obtain ⟨fu, rfl⟩ : ∃ f, fuel = f + 1 := ⟨fuel - 1, by omega⟩
    rw [m_X5_randomGames_c36, m_X6_randomGames_c26, if_pos (nI_le (by omega) (by omega)), if_pos (nI_le (by omega) (by omega))]
    exact ⟨_, rfl, rfl⟩
  | succ d ih =>
    intro g fuel S c hg hf hS
    obtain ⟨fu, rfl⟩ : ∃ f, fuel = f + 1 := ⟨fuel - 1, by omega⟩
    rw [m_X5_randomGames_c36, m_X6_randomGames_c26, if_neg (nI_ge (a := g) (b := G) (by omega) (by omega)), if_neg (nI_ge (a := g) (b := G) (by omega) (by omega)), free_eq hn, bitcount]
    have hpl := pc_le (m_X3_free s0 s1 (full n))
    obtain ⟨S', c', h1, -, h2, h3⟩ := rg_inn hn hN (m_X5_randomGames_c36 m s0 s1 (B_size (bdn n)) (B_cells (bdn n)) (B_all (bdn n)) (B_upper (bdn n)) (B_lower (bdn n)) (B_left (bdn n)) (B_right (bdn n)) (nI G) fu) (m_X6_randomGames_c26 (nI n) m s0 s1 near (nI G) fu) (c := c) (g := g) (pc (m_X3_free s0 s1 (full n))) FU S s0 (m_X3_free s0 s1 (full n)) (jirem m 2) rfl (FU_ge (by omega)) hS h0 (free_sub hn s0 s1)
    rw [show m_X3_stonesOf s0 s1 0 = s0 from rfl, show m_X3_mover m = jirem m 2 from rfl, h2, h3]
    exact ih (g + 1) fu S' c' (by omega) (by omega) h1
theorem s_randomGames : S_randomGames InvR := by
  rintro x b y t0 t1 ⟨n, m, K, hn, rfl, ⟨g1, g2, g3, g4, g5, g6, g7, g8, g9, g10, g11, g12⟩, hN, -⟩ p1 p2
  obtain ⟨q1, q2, q3, -⟩ := st_ok hn g7 m g6
  unfold m_X5_randomGames m_X6_randomGames
  rw [g1, g2, g3, g9, g10, g11, g12]
  by_cases hp : p1 < 0
  · rw [if_pos hp, if_pos hp]
    exact ⟨_, _, rfl, rfl, rfl⟩
  · rw [if_neg hp, if_neg hp]
    rcases pk_ix p2 (n := 51) (by decide) with h | h | ⟨j, hj, rfl⟩
    · have h1 : p2 < 1 := by
        rw [Int32.lt_iff_toInt_lt] at h ⊢
        have : (0 : Int32).toInt = 0 := rfl
        have : (1 : Int32).toInt = 1 := rfl
        omega
      rw [if_pos h1, in_out (Or.inl h1)]
      exact ⟨_, _, rfl, rfl, rfl⟩
    · rw [Int32.le_iff_toInt_le, nI_toInt (by decide)] at h
      have h1 : ¬ p2 < 1 := by
        rw [Int32.lt_iff_toInt_lt]
        have : (1 : Int32).toInt = 1 := rfl
        omega
      have h2 : ¬ p2 ≤ 50 := by
        rw [Int32.le_iff_toInt_le]
        have : (50 : Int32).toInt = 50 := rfl
        omega
      rw [if_neg h1, if_neg h2, in_out (Or.inr (lt_of_nle h2))]
      exact ⟨_, _, rfl, rfl, rfl⟩
    · by_cases h0 : j = 0
      · subst h0
        exact ⟨-12, -12, rfl, rfl, rfl⟩
      · have h1 : ¬ nI j < (1 : Int32) := nI_nlt (a := j) (b := 1) (by omega) (by omega)
        have h2 : nI j ≤ (50 : Int32) := nI_le (a := j) (b := 50) (by omega) (by decide)
        rw [if_neg h1, if_pos h2, in_in h1 (nlt_of_le h2), if_neg one_nz]
        obtain ⟨S, hS, eS⟩ := pos_long hp
        obtain ⟨o, o1, o2⟩ := rg_out hn hN (s0 := (st n (X_o_game_list x) m).1) (s1 := (st n (X_o_game_list x) m).2) q1 (nI m) (G := j) (by omega) j 0 FU S 0 (by omega) (FU_ge (by omega)) hS
        rw [eS]
        exact ⟨o, o, o1, o2, rfl⟩

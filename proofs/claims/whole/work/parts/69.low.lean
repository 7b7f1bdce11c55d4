/-! the lowest bit -/
theorem tb_m1b : ∀ l, l < 64 → ∀ k, k < 64 → tb (jshl 1 (nI l) - 1) k = decide (k < l) := by decide +kernel
theorem i64_or_add {a b : Int64} (h : a &&& b = 0) : a + b = a ||| b := by
  apply Int64.toBitVec_inj.mp
  rw [Int64.toBitVec_add, Int64.toBitVec_or]
  refine BitVec.add_eq_or_of_and_eq_zero _ _ ?_
  have := congrArg Int64.toBitVec h
  rw [Int64.toBitVec_and] at this
  exact this
theorem i64_add_sub (a b c : Int64) : a + b - c = a + (b - c) := by
  rw [Int64.sub_eq_add_neg, Int64.sub_eq_add_neg, Int64.add_assoc]
/-- l is the lowest of the set -/
def low (x : Int64) (l : Nat) : Prop := l < 64 ∧ tb x l = true ∧ ∀ k, k < l → tb x k = false
theorem low_ex {x : Int64} (h : ¬ x = 0) : ∃ l, low x l := by
  obtain ⟨k, hk, hb⟩ := ne_zero_iff.mp h
  obtain ⟨l, h1, h2⟩ := pk_least (fun k => tb x k = true) ⟨k, hb⟩
  refine ⟨l, tb_lt64 h1, h1, fun j hj => ?_⟩
  have := h2 j hj
  simpa using this
theorem low_uniq {x : Int64} {l m : Nat} (h1 : low x l) (h2 : low x m) : l = m := by
  rcases Nat.lt_trichotomy l m with h | h | h
  · have := h2.2.2 l h; rw [h1.2.1] at this; cases this
  · exact h
  · have := h1.2.2 m h; rw [h2.2.1] at this; cases this
theorem tb_pred {x : Int64} {l : Nat} (h : low x l) {k : Nat} (hk : k < 64) : tb (x - 1) k = (decide (k < l) || (tb x k && decide (l < k))) := by
  obtain ⟨hl, h1, h2⟩ := h
  have hsplit : x = (x &&& (jshl 1 (nI l) ^^^ (-1))) ||| jshl 1 (nI l) := by
    apply tb_ext
    intro j hj
    rw [tb_or, tb_and, tb_not _ hj, tb_one hl hj]
    by_cases e : j = l
    · subst e; rw [h1]; simp
    · simp [e]
  have hdis : (x &&& (jshl 1 (nI l) ^^^ (-1))) &&& jshl 1 (nI l) = 0 := by
    rw [and_eq_zero]
    intro j a b
    have hj := tb_lt64 b
    rw [tb_and, tb_not _ hj, Bool.and_eq_true] at a
    rw [b] at a
    simp at a
  have hdis2 : (x &&& (jshl 1 (nI l) ^^^ (-1))) &&& (jshl 1 (nI l) - 1) = 0 := by
    rw [and_eq_zero]
    intro j a b
    have hj := tb_lt64 b
    rw [tb_m1b l hl j hj] at b
    rw [tb_and, Bool.and_eq_true] at a
    have := h2 j (of_decide_eq_true b)
    rw [this] at a
    cases a.1
  have e : x - 1 = (x &&& (jshl 1 (nI l) ^^^ (-1))) ||| (jshl 1 (nI l) - 1) := by
    rw [← i64_or_add hdis2]
    conv => lhs; rw [hsplit, ← i64_or_add hdis]
    rw [i64_add_sub]
  rw [e, tb_or, tb_and, tb_not _ hk, tb_one hl hk, tb_m1b l hl k hk]
  by_cases a : k < l
  · simp [a]
  · by_cases b : k = l
    · subst b; simp
    · have c : l < k := by omega
      simp [a, b, c]
theorem tb_neg {x : Int64} {l : Nat} (h : low x l) {k : Nat} (hk : k < 64) : tb (-x) k = !tb (x - 1) k := by
  have e : -x = (x - 1) ^^^ (-1) := by
    apply Int64.toBitVec_inj.mp
    have e1 : (-1 : Int64).toBitVec = BitVec.allOnes 64 := by decide
    rw [Int64.toBitVec_neg, Int64.toBitVec_xor, Int64.toBitVec_sub, e1, BitVec.xor_allOnes]
    have e2 : (1 : Int64).toBitVec = 1#64 := rfl
    rw [e2, BitVec.neg_eq_not_add]
    rw [← BitVec.not_sub_one_eq_not_add_one]
  rw [e, tb_not _ hk]
theorem low_clear {x : Int64} {l : Nat} (h : low x l) {k : Nat} (hk : k < 64) : tb (x &&& (x - 1)) k = (tb x k && !decide (k = l)) := by
  rw [tb_and, tb_pred h hk]
  obtain ⟨hl, h1, h2⟩ := h
  by_cases a : k < l
  · rw [h2 k a]; simp
  · by_cases b : k = l
    · subst b; simp
    · have c : l < k := by omega
      simp [a, b, c]
theorem low_iso {x : Int64} {l : Nat} (h : low x l) : x &&& (-x) = jshl 1 (nI l) := by
  apply tb_ext
  intro k hk
  rw [tb_and, tb_neg h hk, tb_pred h hk, tb_one h.1 hk]
  obtain ⟨hl, h1, h2⟩ := h
  by_cases a : k < l
  · have : ¬ k = l := by omega
    rw [h2 k a]; simp [this]
  · by_cases b : k = l
    · subst b; rw [h1]; simp
    · have c : l < k := by omega
      simp [a, b, c]
theorem bc_low : ∀ l, l < 64 → m_J13_bitCount_95d88 (jshl 1 (nI l) - 1) = nI l := by decide +kernel
theorem x_lowest {x : Int64} {l : Nat} (h : low x l) : m_X5_lowest x = nI l := by
  unfold m_X5_lowest
  rw [low_iso h, bc_low l h.1]
theorem m_low_loop {x : Int64} {l : Nat} (h : low x l) : ∀ (d i fuel : Nat), i + d = l → d + 1 ≤ fuel → m_X6_lowest_c2 x fuel (nI i) = some (nI l) := by
  obtain ⟨hl, h1, h2⟩ := h
  intro d
  induction d with
  | zero =>
    intro i fuel hi hf
    obtain ⟨fu, rfl⟩ : ∃ f, fuel = f + 1 := ⟨fuel - 1, by omega⟩
    have e : i = l := by omega
    subst e
    rw [m_X6_lowest_c2, has_eq x hl, if_pos h1, if_neg one_nz]
  | succ d ih =>
    intro i fuel hi hf
    obtain ⟨fu, rfl⟩ : ∃ f, fuel = f + 1 := ⟨fuel - 1, by omega⟩
    rw [m_X6_lowest_c2, has_eq x (by omega), if_neg (show ¬ tb x i = true by rw [h2 i (by omega)]; decide), if_pos rfl, nI_1]
    exact ih (i + 1) fu (by omega) (by omega)
theorem m_lowest {x : Int64} {l : Nat} (h : low x l) : m_X6_lowest x = some (nI l) := by
  have hl := h.1
  exact m_low_loop h l 0 FU (by omega) (FU_ge (by omega))
theorem pcb_clear {x : Int64} {l : Nat} (h : low x l) (m : Nat) (hm : m ≤ 64) : pcb x m = pcb (x &&& (x - 1)) m + (if l < m then 1 else 0) := by
  induction m with
  | zero => rw [if_neg (by omega)]; rfl
  | succ m ih =>
    unfold pcb
    rw [ih (by omega), low_clear h (by omega)]
    by_cases e : m = l
    · subst e
      have h1 : ¬ m < m := by omega
      have h2 : m < m + 1 := by omega
      simp [h.2.1, h1, h2]
    · have h3 : (l < m + 1) ↔ (l < m) := by omega
      simp only [e, decide_false, Bool.not_false, Bool.and_true, h3]
      omega
theorem pc_clear {x : Int64} {l : Nat} (h : low x l) : pc x = pc (x &&& (x - 1)) + 1 := by
  unfold pc
  rw [pcb_clear h 64 (Nat.le_refl 64), if_pos h.1]
theorem pc_zero : pc 0 = 0 := by decide
theorem pc_pos {x : Int64} (h : ¬ x = 0) : 0 < pc x := by
  obtain ⟨l, hl⟩ := low_ex h
  have := pc_clear hl
  omega
theorem m_size_loop : ∀ (d a fuel : Nat) (x : Int64), pc x = d → d + 1 ≤ fuel → m_X6_size_c4 fuel (nI a) x = some (nI (a + d)) := by
  intro d
  induction d with
  | zero =>
    intro a fuel x hx hf
    obtain ⟨fu, rfl⟩ : ∃ f, fuel = f + 1 := ⟨fuel - 1, by omega⟩
    have e : x = 0 := by
      rcases Classical.em (x = 0) with e | e
      · exact e
      · have := pc_pos e; omega
    rw [m_X6_size_c4, if_pos e]
    rfl
  | succ d ih =>
    intro a fuel x hx hf
    obtain ⟨fu, rfl⟩ : ∃ f, fuel = f + 1 := ⟨fuel - 1, by omega⟩
    have hne : ¬ x = 0 := fun e => by rw [e, pc_zero] at hx; omega
    obtain ⟨l, hl⟩ := low_ex hne
    rw [m_X6_size_c4, if_neg hne, nI_1, ih (a + 1) fu _ (by have := pc_clear hl; omega) (by omega)]
    rw [show a + 1 + d = a + (d + 1) by omega]
theorem m_size (x : Int64) : m_X6_size x = some (nI (pc x)) := by
  have h := m_size_loop (pc x) 0 FU x rfl (FU_ge (by have := pc_le x; omega))
  rw [Nat.zero_add] at h
  exact h
/-! chains -/
theorem cl_seed_eq {n : Nat} {s t w : Int64} (h : ∀ k, tb w k = true → (tb s k = tb t k)) : cl n s w = cl n t w := by
  unfold cl
  have e : s &&& w = t &&& w := by
    apply tb_ext
    intro k _
    rw [tb_and, tb_and]
    cases hw : tb w k
    · simp
    · rw [h k hw]
  rw [e]
theorem x_chainAround {n : Nat} (hn : 2 ≤ n ∧ n ≤ 7) {s0 s1 : Int64} (h0 : sub s0 (full n)) (h1 : sub s1 (full n)) {j : Nat} (hj : j < n * n) : m_X5_chainAround s0 s1 (B_size (bdn n)) (B_cells (bdn n)) (B_all (bdn n)) (B_left (bdn n)) (B_right (bdn n)) (nI j) = some (cl n (jshl 1 (nI j)) (if tb s0 j = true then s0 else s1)) := by
  have h49 := nn_lt hn
  unfold m_X5_chainAround m_X5_chainAround_c28
  have e : (m_X3_stonesOf s0 s1 0 &&& jshl 1 (nI j) = 0) ↔ tb s0 j = false := by
    show s0 &&& jshl 1 (nI j) = 0 ↔ _
    rw [and_eq_zero]
    constructor
    · intro h
      cases hb : tb s0 j
      · rfl
      · exact (h j hb (by rw [tb_one (by omega) (by omega)]; exact decide_eq_true rfl)).elim
    · intro h k a b
      rw [tb_one (by omega) (tb_lt64 b)] at b
      rw [of_decide_eq_true b, h] at a
      cases a
  by_cases hb : tb s0 j = true
  · rw [if_neg (fun q => by rw [e.mp q] at hb; cases hb), if_pos hb]
    show ((m_X0_flood _ _ _ _ _ _ s0).bind _) = _
    rw [x_flood hn h0]
    rfl
  · have hb' : tb s0 j = false := by simpa using hb
    rw [if_pos (e.mpr hb'), if_neg hb]
    show ((m_X0_flood _ _ _ _ _ _ s1).bind _) = _
    rw [x_flood hn h1]
    rfl
theorem m_chainWith {n : Nat} (hn : 2 ≤ n ∧ n ≤ 7) {near : Nat → Int64} (hN : Near n near) {s0 s1 : Int64} (h0 : sub s0 (full n)) (h1 : sub s1 (full n)) {j : Nat} (hj : j < n * n) : m_X6_chainWith (nI n) s0 s1 near (nI j) = some (cl n (jshl 1 (nI j)) (if tb s0 j = true then s0 else s1)) := by
  have h49 := nn_lt hn
  unfold m_X6_chainWith m_X6_chainWith_c26
  rw [has_eq _ (by omega)]
  by_cases hb : tb s0 j = true
  · rw [if_pos hb, if_neg one_nz, if_pos hb, m_reach hn hN h0]
    rfl
  · rw [if_neg hb, if_pos rfl, if_neg hb, m_reach hn hN h1]
    rfl
theorem chain_has {n : Nat} (hn : 2 ≤ n ∧ n ≤ 7) {w : Int64} {j : Nat} (hj : j < n * n) : tb w j = true → tb (cl n (jshl 1 (nI j)) w) j = true := by
  have h49 := nn_lt hn
  intro h
  exact cl_seed n _ w j (by rw [tb_and, h, tb_one (by omega) (by omega)]; simp)
theorem chain_none {n : Nat} (hn : 2 ≤ n ∧ n ≤ 7) {w : Int64} {j : Nat} (hj : j < n * n) (h : tb w j = false) : cl n (jshl 1 (nI j)) w = 0 := by
  have h49 := nn_lt hn
  have e : jshl 1 (nI j) &&& w = 0 := by
    rw [and_eq_zero]
    intro k a b
    rw [tb_one (by omega) (tb_lt64 a)] at a
    rw [of_decide_eq_true a, h] at b
    cases b
  unfold cl
  rw [e, it_fix (stp_zero hn w)]
theorem tb_ne {x : Int64} {k : Nat} (h : tb x k = true) : ¬ x = 0 := fun e => by rw [e, tb_zero] at h; cases h
theorem s_chainOf : S_chainOf InvR := by
  rintro x b y t0 t1 ⟨n, m, K, hn, rfl, ⟨g1, g2, g3, g4, g5, g6, g7, g8, g9, g10, g11, g12⟩, hN, -⟩ p1
  have h49 := nn_lt hn
  obtain ⟨q1, q2, q3, -⟩ := st_ok hn g7 m g6
  unfold m_X5_chainOf m_X6_chainOf
  rw [g1, g9, g10, g11, g12, free_eq hn]
  rcases cell_cases hn p1 with ⟨a, b⟩ | ⟨j, hj, rfl, a, b⟩ <;> rw [a, b]
  · exact ⟨_, _, rfl, rfl, rfl⟩
  · rw [if_neg one_nz, if_neg one_nz, x_chainAround hn q1 q2 hj, m_chainWith hn hN q1 q2 hj, has_eq _ (by omega), bs, bs]
    by_cases hf : tb (m_X3_free (st n (X_o_game_list x) m).1 (st n (X_o_game_list x) m).2 (full n)) j = true
    · rw [if_pos hf, if_neg one_nz]
      rw [tb_free hn _ _ (by omega)] at hf
      simp only [Bool.and_eq_true, Bool.not_eq_true'] at hf
      rw [if_neg (show ¬ tb (st n (X_o_game_list x) m).1 j = true by rw [hf.1.2]; decide), chain_none hn hj hf.2, if_pos rfl]
      exact ⟨_, _, rfl, rfl, rfl⟩
    · rw [if_neg hf, if_pos rfl]
      have hh : tb (cl n (jshl 1 (nI j)) (if tb (st n (X_o_game_list x) m).1 j = true then (st n (X_o_game_list x) m).1 else (st n (X_o_game_list x) m).2)) j = true := by
        rw [tb_free hn _ _ (by omega)] at hf
        by_cases h1 : tb (st n (X_o_game_list x) m).1 j = true
        · rw [if_pos h1]; exact chain_has hn hj h1
        · rw [if_neg h1]
          apply chain_has hn hj
          simp [hj, h1] at hf
          exact hf
      obtain ⟨l, hl⟩ := low_ex (tb_ne hh)
      rw [if_neg (tb_ne hh), x_lowest hl, m_lowest hl]
      exact ⟨_, _, rfl, rfl, rfl⟩
theorem s_chain : S_chain InvR := by
  rintro x b y t0 t1 ⟨n, m, K, hn, rfl, ⟨g1, g2, g3, g4, g5, g6, g7, g8, g9, g10, g11, g12⟩, hN, -⟩ p1
  have h49 := nn_lt hn
  obtain ⟨q1, q2, q3, -⟩ := st_ok hn g7 m g6
  unfold m_X5_chain m_X6_chain m_X6_chain_c35 m_X6_chain_c36
  rw [g1, g9, g10, g11, g12, free_eq hn]
  rcases cell_cases hn p1 with ⟨a, b⟩ | ⟨j, hj, rfl, a, b⟩ <;> rw [a, b]
  · exact ⟨_, _, rfl, rfl, rfl⟩
  · rw [if_neg one_nz, if_neg one_nz, x_chainAround hn q1 q2 hj, m_chainWith hn hN q1 q2 hj, has_eq _ (by omega), bs, bs]
    by_cases hf : tb (m_X3_free (st n (X_o_game_list x) m).1 (st n (X_o_game_list x) m).2 (full n)) j = true
    · rw [if_pos hf, if_neg one_nz]
      rw [tb_free hn _ _ (by omega)] at hf
      simp only [Bool.and_eq_true, Bool.not_eq_true'] at hf
      rw [if_neg (show ¬ tb (st n (X_o_game_list x) m).1 j = true by rw [hf.1.2]; decide), chain_none hn hj hf.2, if_pos rfl]
      exact ⟨_, _, rfl, rfl, rfl⟩
    · rw [if_neg hf, if_pos rfl]
      have hh : tb (cl n (jshl 1 (nI j)) (if tb (st n (X_o_game_list x) m).1 j = true then (st n (X_o_game_list x) m).1 else (st n (X_o_game_list x) m).2)) j = true := by
        rw [tb_free hn _ _ (by omega)] at hf
        by_cases h1 : tb (st n (X_o_game_list x) m).1 j = true
        · rw [if_pos h1]; exact chain_has hn hj h1
        · rw [if_neg h1]
          apply chain_has hn hj
          simp [hj, h1] at hf
          exact hf
      obtain ⟨l, hl⟩ := low_ex (tb_ne hh)
      rw [if_neg (tb_ne hh), x_lowest hl, m_lowest hl, bs]
      by_cases e : nI l = nI j
      · rw [if_pos e, if_pos e]
        exact ⟨_, _, rfl, rfl, rfl⟩
      · rw [if_neg e, if_neg e]
        exact ⟨_, _, rfl, rfl, rfl⟩

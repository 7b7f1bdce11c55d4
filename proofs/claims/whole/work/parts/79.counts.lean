/-! counting -/
def cnt (p : Nat → Bool) : Nat → Nat
  | 0 => 0
  | m + 1 => cnt p m + (if p m = true then 1 else 0)
theorem cnt_le (p : Nat → Bool) (m : Nat) : cnt p m ≤ m := by
  induction m with
  | zero => exact Nat.le_refl 0
  | succ m ih => unfold cnt; split <;> omega
theorem cnt_congr {p q : Nat → Bool} : ∀ (m : Nat), (∀ g, g < m → p g = q g) → cnt p m = cnt q m
  | 0, _ => rfl
  | m + 1, h => by
    unfold cnt
    rw [cnt_congr m (fun g hg => h g (by omega)), h m (by omega)]
theorem cnt_not (p : Nat → Bool) : ∀ m, cnt p m + cnt (fun g => !p g) m = m
  | 0 => rfl
  | m + 1 => by
    have := cnt_not p m
    unfold cnt
    cases h : p m <;> simp [h] <;> omega
theorem cnt_lim {q : Nat → Bool} {M : Nat} : ∀ j, cnt (fun g => decide (g < M) && q g) (M + j) = cnt q M
  | 0 => by
    refine cnt_congr M (fun g hg => ?_)
    simp [hg]
  | j + 1 => by
    have : ¬ M + j < M := by omega
    show cnt _ (M + j) + (if (decide (M + j < M) && q (M + j)) = true then 1 else 0) = _
    rw [cnt_lim j]
    simp [this]
theorem cnt_word {p : Nat → Bool} {x : Int64} {base : Nat} (h : ∀ b, b < 64 → tb x b = p (base + b)) : ∀ m, m ≤ 64 → cnt p (base + m) = cnt p base + pcb x m
  | 0, _ => rfl
  | m + 1, hm => by
    show cnt p (base + m) + (if p (base + m) = true then 1 else 0) = cnt p base + (pcb x m + (if tb x m = true then 1 else 0))
    rw [cnt_word h m (by omega), h m (by omega)]
    omega
theorem won_loop {p : Nat → Bool} {wins : Nat → Int64} (hT : Tb p wins) : ∀ (d w fuel : Nat), w + d = 64 → d + 1 ≤ fuel → m_X2_wonByFirst_c4 wins fuel (nI (cnt p (64 * w))) (nI w) = some (nI (cnt p 4096)) := by
  intro d
  induction d with
  | zero =>
    intro w fuel hw hf
    obtain ⟨fu, rfl⟩ : ∃ f, fuel = f + 1 := ⟨fuel - 1, by omega⟩
    have e : w = 64 := by omega
    subst e
    rw [m_X2_wonByFirst_c4, if_pos (by decide)]
  | succ d ih =>
    intro w fuel hw hf
    obtain ⟨fu, rfl⟩ : ∃ f, fuel = f + 1 := ⟨fuel - 1, by omega⟩
    rw [m_X2_wonByFirst_c4, if_neg (show ¬ (64 : Int32) ≤ nI w from nI_ge (a := w) (b := 64) (by omega) (by decide)), if_pos (okI_nI (by omega) (by decide)), nI_clamp (by omega), nI_1, bitcount, nI_add]
    have h1 := cnt_word (p := p) (x := wins w) (base := 64 * w) (fun b hb => hT w b (by omega) hb) 64 (Nat.le_refl 64)
    have h2 := ih (w + 1) fu (by omega) (by omega)
    rw [show 64 * (w + 1) = 64 * w + 64 by omega, h1] at h2
    exact h2
theorem x_won {q : Nat → Bool} {h : Nat} (hh : h ≤ 12) {wins : Nat → Int64} (hT : Tb (fun g => decide (g < 2 ^ h) && q g) wins) : m_X2_wonByFirst wins = some (nI (cnt q (2 ^ h))) := by
  have h12 := pow12 hh
  have h1 := won_loop hT 64 0 FU (by omega) (FU_ge (by omega))
  have h2 := cnt_lim (q := q) (M := 2 ^ h) (4096 - 2 ^ h)
  rw [show 2 ^ h + (4096 - 2 ^ h) = 4096 by omega] at h2
  rw [h2] at h1
  exact h1
theorem x_isWon {q : Nat → Bool} {h : Nat} (hh : h ≤ 12) {wins : Nat → Int64} (hT : Tb (fun g => decide (g < 2 ^ h) && q g) wins) {g : Nat} (hg : g < 2 ^ h) : m_X2_isWon wins (nI g) = some (bi (q g)) := by
  have h12 := pow12 hh
  unfold m_X2_isWon
  rw [ushr6 (by omega), and63 (by omega), if_neg (show ¬ (64 : Int32) ≤ nI (g / 64) from nI_ge (a := g / 64) (b := 64) (by omega) (by decide)), if_pos (okI_nI (by omega) (by decide)), nI_clamp (by omega)]
  have ht := hT (g / 64) (g % 64) (by omega) (by omega)
  rw [show 64 * (g / 64) + g % 64 = g by omega] at ht
  have h1 := and_one (jushr (wins (g / 64)) (nI (g % 64)))
  rw [tb_ushr _ 0 (by omega), Nat.add_zero, ht] at h1
  unfold bi
  cases e : q g
  · rw [if_pos (h1.1.mpr (by simp [e]))]; rfl
  · rw [if_neg (fun z => by have := h1.1.mp z; simp [e, hg] at this)]; rfl
def wp (q : Nat → Bool) (i f : Nat) : Bool := !f.testBit i && (q f != q (f ||| 2 ^ i))
theorem bit_and {f i : Nat} (hf : f < 2 ^ 31) (hi : i < 31) : (nI f &&& nI (2 ^ i) = 0) ↔ f.testBit i = false := by
  have hp : (2 : Nat) ^ i < 2 ^ 31 := Nat.pow_lt_pow_right (by decide) hi
  have hlt : f &&& 2 ^ i < 2 ^ 31 := Nat.lt_of_le_of_lt Nat.and_le_left hf
  rw [nI_and hf hp, ← nI_0, nI_eq hlt (by decide)]
  constructor
  · intro h
    have : (f &&& 2 ^ i).testBit i = false := by rw [h]; exact Nat.zero_testBit i
    rw [Nat.testBit_and, Nat.testBit_two_pow_self, Bool.and_true] at this
    exact this
  · intro h
    apply Nat.eq_of_testBit_eq
    intro j
    rw [Nat.testBit_and, Nat.testBit_two_pow, Nat.zero_testBit]
    by_cases q : i = j
    · subst q; rw [h]; rfl
    · simp [q]
theorem bi_eq {a b : Bool} : bi a = bi b ↔ a = b := by cases a <;> cases b <;> decide
theorem dec_loop {q : Nat → Bool} {h i : Nat} (hh : h ≤ 12) (hi : i < h) {wins : Nat → Int64} (hT : Tb (fun g => decide (g < 2 ^ h) && q g) wins) : ∀ (d f fuel : Nat), f + d = 2 ^ h → d + 1 ≤ fuel → m_X2_decidedBy_c9 (nI h) wins fuel (nI (2 ^ i)) (nI (cnt (wp q i) f)) (nI f) = some (nI (cnt (wp q i) (2 ^ h))) := by
  have h12 := pow12 hh
  intro d
  induction d with
  | zero =>
    intro f fuel hf hfu
    obtain ⟨fu, rfl⟩ : ∃ f, fuel = f + 1 := ⟨fuel - 1, by omega⟩
    have e : f = 2 ^ h := by omega
    subst e
    unfold m_X2_decidedBy_c9 m_X2_size
    rw [one_shl (by omega), if_pos (nI_le (Nat.le_refl _) (by omega))]
  | succ d ih =>
    intro f fuel hf hfu
    obtain ⟨fu, rfl⟩ : ∃ f, fuel = f + 1 := ⟨fuel - 1, by omega⟩
    have h2 := ih (f + 1) fu (by omega) (by omega)
    have e2 : cnt (wp q i) (f + 1) = cnt (wp q i) f + (if wp q i f = true then 1 else 0) := rfl
    rw [m_X2_decidedBy_c9]
    unfold m_X2_size m_X2_decidedBy_c45
    rw [one_shl (by omega), if_neg (nI_ge (a := f) (b := 2 ^ h) (by omega) (by omega)), nI_1]
    by_cases z : f.testBit i = false
    · have hor : f ||| 2 ^ i < 2 ^ h := Nat.or_lt_two_pow (by omega) (Nat.pow_lt_pow_right (by decide) hi)
      have hp : (2 : Nat) ^ i < 2 ^ 31 := Nat.pow_lt_pow_right (by decide) (by omega)
      rw [if_pos ((bit_and (by omega) (by omega)).mpr z), nI_or (by omega) hp, x_isWon hh hT (by omega), x_isWon hh hT hor, bs, bs]
      by_cases y : q f = q (f ||| 2 ^ i)
      · rw [if_pos (bi_eq.mpr y)]
        rw [e2, if_neg (by unfold wp; simp [y])] at h2
        exact h2
      · rw [if_neg (fun w => y (bi_eq.mp w)), nI_1]
        rw [e2, if_pos (by unfold wp; simp [y, z])] at h2
        exact h2
    · rw [if_neg (fun w => z ((bit_and (by omega) (by omega)).mp w))]
      rw [e2, if_neg (by unfold wp; simp at z; simp [z])] at h2
      exact h2
theorem x_decided {q : Nat → Bool} {h i : Nat} (hh : h ≤ 12) (hi : i < h) {wins : Nat → Int64} (hT : Tb (fun g => decide (g < 2 ^ h) && q g) wins) : m_X2_decidedBy (nI h) wins (nI i) = some (nI (cnt (wp q i) (2 ^ h))) := by
  have h12 := pow12 hh
  unfold m_X2_decidedBy
  rw [one_shl (by omega)]
  exact dec_loop hh hi hT (2 ^ h) 0 FU (by omega) (FU_ge (by omega))
theorem wei_loop {q : Nat → Bool} {h i : Nat} (hh : h ≤ 12) (hi : i < h) {isWon : Nat → Int32} (hW : ∀ g, g < 2 ^ h → isWon g = bi (q g)) : ∀ (d f fuel : Nat), f + d = 2 ^ h → d + 1 ≤ fuel → m_X6_weightOf_c4 (nI h) isWon (nI i) fuel (nI (cnt (wp q i) f)) (nI f) = some (nI (cnt (wp q i) (2 ^ h))) := by
  have h12 := pow12 hh
  intro d
  induction d with
  | zero =>
    intro f fuel hf hfu
    obtain ⟨fu, rfl⟩ : ∃ f, fuel = f + 1 := ⟨fuel - 1, by omega⟩
    have e : f = 2 ^ h := by omega
    subst e
    rw [m_X6_weightOf_c4, one_shl (by omega), if_pos (nI_le (Nat.le_refl _) (by omega))]
  | succ d ih =>
    intro f fuel hf hfu
    obtain ⟨fu, rfl⟩ : ∃ f, fuel = f + 1 := ⟨fuel - 1, by omega⟩
    have h2 := ih (f + 1) fu (by omega) (by omega)
    have e2 : cnt (wp q i) (f + 1) = cnt (wp q i) f + (if wp q i f = true then 1 else 0) := rfl
    have hp : (2 : Nat) ^ i < 2 ^ 31 := Nat.pow_lt_pow_right (by decide) (by omega)
    have hm : nI (f / 2 ^ i % 2) = 0 ↔ f.testBit i = false := by
      rw [Nat.testBit_eq_decide_div_mod_eq, ← nI_0, nI_eq (by omega) (by omega)]
      simp
    rw [m_X6_weightOf_c4, one_shl (by omega), one_shl (by omega), if_neg (nI_ge (a := f) (b := 2 ^ h) (by omega) (by omega)), shr_bit (by omega) (by omega)]
    unfold m_X6_weightOf_c46 m_X6_weightOf_c47
    rw [nI_1 f, show nI (cnt (wp q i) f) + (0 : Int32) = nI (cnt (wp q i) f) from Int32.add_zero _]
    by_cases z : f.testBit i = false
    · have hor : f ||| 2 ^ i < 2 ^ h := Nat.or_lt_two_pow (by omega) (Nat.pow_lt_pow_right (by decide) hi)
      rw [if_pos (hm.mpr z), nI_or (by omega) hp, if_pos (okI_nI (by omega) (by decide)), if_pos (okI_nI (by omega) (by decide)), nI_clamp (by omega), nI_clamp (by omega), hW f (by omega), hW _ hor]
      by_cases y : q f = q (f ||| 2 ^ i)
      · rw [if_pos (bi_eq.mpr y)]
        rw [e2, if_neg (by unfold wp; simp [y])] at h2
        exact h2
      · rw [if_neg (fun w => y (bi_eq.mp w)), nI_1]
        rw [e2, if_pos (by unfold wp; simp [y, z])] at h2
        exact h2
    · rw [if_neg (fun w => z (hm.mp w))]
      rw [e2, if_neg (by unfold wp; simp at z; simp [z])] at h2
      exact h2
theorem m_weightOf {q : Nat → Bool} {h i : Nat} (hh : h ≤ 12) (hi : i < h) {isWon : Nat → Int32} (hW : ∀ g, g < 2 ^ h → isWon g = bi (q g)) : m_X6_weightOf (nI h) isWon (nI i) = some (nI (cnt (wp q i) (2 ^ h))) := by
  have h12 := pow12 hh
  exact wei_loop hh hi hW (2 ^ h) 0 FU (by omega) (FU_ge (by omega))
theorem m_fil_loop {q : Nat → Bool} {h : Nat} (hh : h ≤ 12) {isWon hole : Nat → Int32} (hW : ∀ g, g < 2 ^ h → isWon g = bi (q g)) {p : Int32} {r : Nat → Bool} (hr : r = if p = 0 then q else fun g => !q g) : ∀ (d f fuel : Nat), f + d = 2 ^ h → d + 1 ≤ fuel → m_X6_fillings_c24 p fuel (nI (cnt r f)) (nI f) (nI h) hole isWon = some (nI (cnt r (2 ^ h)), nI h, hole, isWon) := by
  have h12 := pow12 hh
  intro d
  induction d with
  | zero =>
    intro f fuel hf hfu
    obtain ⟨fu, rfl⟩ : ∃ f, fuel = f + 1 := ⟨fuel - 1, by omega⟩
    have e : f = 2 ^ h := by omega
    subst e
    rw [m_X6_fillings_c24, one_shl (by omega), if_pos (nI_le (Nat.le_refl _) (by omega))]
  | succ d ih =>
    intro f fuel hf hfu
    obtain ⟨fu, rfl⟩ : ∃ f, fuel = f + 1 := ⟨fuel - 1, by omega⟩
    have h2 := ih (f + 1) fu (by omega) (by omega)
    have e2 : cnt r (f + 1) = cnt r f + (if r f = true then 1 else 0) := rfl
    rw [m_X6_fillings_c24, one_shl (by omega), if_neg (nI_ge (a := f) (b := 2 ^ h) (by omega) (by omega)), if_pos (okI_nI (by omega) (by decide)), nI_clamp (by omega), hW f (by omega)]
    unfold m_X6_fillings_c50 m_X6_fillings_c58
    rw [nI_1 f, nI_1 (cnt r f), show nI (cnt r f) + (0 : Int32) = nI (cnt r f) from Int32.add_zero _]
    by_cases z : p = 0
    · rw [if_pos z] at hr ⊢
      subst hr
      cases y : r f
      · rw [e2, y, if_neg (by decide)] at h2
        rw [if_neg (by decide)]; exact h2
      · rw [e2, y, if_pos rfl] at h2
        rw [if_pos (by decide)]; exact h2
    · rw [if_neg z] at hr ⊢
      have hrf : r f = !q f := by rw [hr]
      cases y : q f
      · rw [e2, hrf, y, if_pos (show (!false) = true from rfl)] at h2
        rw [if_pos (by decide)]; exact h2
      · rw [e2, hrf, y, if_neg (by decide)] at h2
        rw [if_neg (by decide)]; exact h2
theorem has12 {n : Nat} (s0 s1 : Int64) : m_X5_hasFreeAtMost s0 s1 (full n) 12 = if pc (m_X3_free s0 s1 (full n)) ≤ 12 then 1 else 0 := by
  have hpl := pc_le (m_X3_free s0 s1 (full n))
  unfold m_X5_hasFreeAtMost
  rw [bitcount]
  by_cases q : pc (m_X3_free s0 s1 (full n)) ≤ 12
  · rw [if_pos q, if_neg (show ¬ (12 : Int32) < nI (pc (m_X3_free s0 s1 (full n))) from nI_nlt (a := 12) (by omega) (by decide))]
  · rw [if_neg q, if_pos (show (12 : Int32) < nI (pc (m_X3_free s0 s1 (full n))) from nI_lt (a := 12) (by omega) (by omega))]
theorem s_fillings : S_fillings InvR := by
  rintro x b y t0 t1 ⟨n, m, K, hn, rfl, ⟨g1, g2, g3, g4, g5, g6, g7, g8, g9, g10, g11, g12⟩, hN, hR⟩ p1
  obtain ⟨q1, q2, q3, -⟩ := st_ok hn g7 m g6
  suffices h : ∃ (ox : Int32 × Int32 × (Nat → Int64)) (oy : Int32 × Int32 × (Nat → Int32) × (Nat → Int32)), m_X5_fillings (X_o_game_stones0 x) (X_o_game_stones1 x) (X_o_table_count x) (X_o_table_wins x) (B_size (bdn n)) (B_cells (bdn n)) (B_all (bdn n)) (B_upper (bdn n)) (B_lower (bdn n)) (B_left (bdn n)) (B_right (bdn n)) p1 = some ox ∧ m_X6_fillings (Y_o_n y) (Y_o_own0 y) (Y_o_own1 y) (Y_o_holes y) (Y_o_near y) (Y_o_hole y) (Y_o_isWon y) p1 = some oy ∧ ox.1 = oy.1 by
    obtain ⟨ox, oy, e1, e2, e3⟩ := h
    exact ⟨ox, oy, e1, e2, e3, n, m, K, hn, rfl, ⟨g1, g2, g3, g4, g5, g6, g7, g8, g9, g10, g11, g12⟩, hN, hR⟩
  rw [g1, g9, g10, g11, g12]
  generalize (st n (X_o_game_list x) m).1 = s0 at *
  generalize (st n (X_o_game_list x) m).2 = s1 at *
  unfold m_X5_fillings m_X6_fillings
  rcases player_cases p1 with ⟨a, b⟩ | ⟨a, b, c⟩ <;> rw [a, b]
  · exact ⟨_, _, rfl, rfl, rfl⟩
  · obtain ⟨h', hS, hc⟩ := m_fills hn hN (s0 := s0) (s1 := s1) q1 (Y_o_hole y) (Y_o_isWon y)
    rw [if_neg one_nz, if_neg one_nz, has12]
    rcases hc with ⟨hp, e⟩ | ⟨hp, w, e, hW⟩
    · rw [if_neg (show ¬ pc (m_X3_free s0 s1 (full n)) ≤ 12 by omega), if_pos rfl, e, bs, if_pos rfl]
      exact ⟨_, _, rfl, rfl, rfl⟩
    · have h12 := pow12 hp
      obtain ⟨w', e', hT⟩ := x_compute hn (s0 := s0) (s1 := s1) q1 hp (X_o_table_wins x)
      rw [if_pos hp, if_neg one_nz, e, bs, if_neg one_nz, e', bs, x_won hp hT, bs]
      have hl := m_fil_loop hp (hole := h') hW (p := p1) (r := if p1 = 0 then wn n s0 (HL n (m_X3_free s0 s1 (full n))) else fun g => !wn n s0 (HL n (m_X3_free s0 s1 (full n))) g) rfl (2 ^ pc (m_X3_free s0 s1 (full n))) 0 FU (by omega) (FU_ge (by omega))
      have hcl := cnt_le (wn n s0 (HL n (m_X3_free s0 s1 (full n)))) (2 ^ pc (m_X3_free s0 s1 (full n)))
      have hcn := cnt_not (wn n s0 (HL n (m_X3_free s0 s1 (full n)))) (2 ^ pc (m_X3_free s0 s1 (full n)))
      by_cases z : p1 = 0
      · rw [if_pos z]
        rw [if_pos z] at hl
        exact ⟨_, _, rfl, hl, rfl⟩
      · rw [if_neg z]
        rw [if_neg z] at hl
        refine ⟨_, _, rfl, hl, ?_⟩
        show m_X2_size (nI (pc (m_X3_free s0 s1 (full n)))) - nI (cnt (wn n s0 (HL n (m_X3_free s0 s1 (full n)))) (2 ^ pc (m_X3_free s0 s1 (full n)))) = nI (cnt _ _)
        unfold m_X2_size
        rw [one_shl (by omega), pk_sub hcl]
        generalize (2 : Nat) ^ pc (m_X3_free s0 s1 (full n)) = M at hcl hcn ⊢
        exact congrArg nI (by omega)
/-! weights -/
theorem hl_idx (P : Int64) : ∀ (d lo c : Nat), tb P c = true → lo ≤ c → c < lo + d → (hl P lo d)[pcb P c - pcb P lo]? = some c
  | 0, lo, c, _, h1, h2 => by omega
  | d + 1, lo, c, hc, h1, h2 => by
    have hs : pcb P (lo + 1) = pcb P lo + (if tb P lo = true then 1 else 0) := rfl
    have hmono : ∀ a b, a ≤ b → pcb P a ≤ pcb P b := fun a b hab => by
      have := hl_len P (b - a) a
      rw [show a + (b - a) = b by omega] at this
      omega
    rw [hl_s]
    by_cases q : c = lo
    · subst q
      rw [if_pos hc, Nat.sub_self]
      rfl
    · have ih := hl_idx P d (lo + 1) c hc (by omega) (by omega)
      have hm := hmono (lo + 1) c (by omega)
      by_cases z : tb P lo = true
      · rw [if_pos z] at hs ⊢
        rw [show pcb P c - pcb P lo = (pcb P c - pcb P (lo + 1)) + 1 by omega, List.getElem?_cons_succ]
        exact ih
      · rw [if_neg z] at hs ⊢
        rw [show pcb P c - pcb P lo = pcb P c - pcb P (lo + 1) by omega]
        exact ih
theorem hl_inj (P : Int64) : ∀ (d lo i j c : Nat), (hl P lo d)[i]? = some c → (hl P lo d)[j]? = some c → i = j := by
  have key : ∀ (l : List Nat) (lo i j c : Nat), Asc lo l → l[i]? = some c → l[j]? = some c → i = j := by
    intro l
    induction l with
    | nil => intro lo i j c _ h1 _; simp at h1
    | cons z t ih =>
      intro lo i j c hA h1 h2
      obtain ⟨a1, a2, a3⟩ := hA
      have hmem : ∀ k, t[k]? = some c → z < c := fun k hk => by
        have := (Asc_ge a3 c (List.mem_of_getElem? hk)).1
        omega
      cases i with
      | zero =>
        cases j with
        | zero => rfl
        | succ j =>
          rw [List.getElem?_cons_succ] at h2
          have := hmem j h2
          rw [List.getElem?_cons_zero] at h1
          have : z = c := Option.some.inj h1
          omega
      | succ i =>
        cases j with
        | zero =>
          rw [List.getElem?_cons_succ] at h1
          have := hmem i h1
          rw [List.getElem?_cons_zero] at h2
          have : z = c := Option.some.inj h2
          omega
        | succ j =>
          rw [List.getElem?_cons_succ] at h1 h2
          rw [ih _ i j c a3 h1 h2]
  intro d lo i j c
  exact key _ lo i j c (hl_asc P d lo)
theorem pcb_below {x : Int64} {c : Nat} (hc : c < 64) : pc (x &&& (jshl 1 (nI c) - 1)) = pcb x c := by
  have h1 : ∀ m, m ≤ c → pcb (x &&& (jshl 1 (nI c) - 1)) m = pcb x m := by
    intro m
    induction m with
    | zero => intro _; rfl
    | succ m ih =>
      intro hm
      unfold pcb
      rw [ih (by omega), tb_and, tb_m1b c hc m (by omega), decide_eq_true (show m < c by omega), Bool.and_true]
  have h2 := pcb_top (x := x &&& (jshl 1 (nI c) - 1)) (m := c) (fun k hk => by
    have h64 := tb_lt64 hk
    rw [tb_and, Bool.and_eq_true, tb_m1b c hc k h64] at hk
    exact of_decide_eq_true hk.2) (64 - c)
  rw [show c + (64 - c) = 64 by omega] at h2
  unfold pc
  rw [h2, h1 c (Nat.le_refl c)]
theorem m_wei_find {q : Nat → Bool} {h i c : Nat} (hh : h ≤ 12) (hi : i < h) (hc : c < 64) {isWon hole : Nat → Int32} (hW : ∀ g, g < 2 ^ h → isWon g = bi (q g)) (hci : hole i = nI c) (hne : ∀ j, j < i → ¬ hole j = nI c) : ∀ (d j fuel : Nat), j + d = i → d + 1 ≤ fuel → m_X6_weight_c34 (nI c) fuel (nI j) (nI h) hole isWon = some (nI (cnt (wp q i) (2 ^ h)), nI h, hole, isWon) := by
  intro d
  induction d with
  | zero =>
    intro j fuel hj hf
    obtain ⟨fu, rfl⟩ : ∃ f, fuel = f + 1 := ⟨fuel - 1, by omega⟩
    have e : j = i := by omega
    subst e
    rw [m_X6_weight_c34, if_pos (okI_nI (by omega) (by decide)), nI_clamp (by omega), if_pos hci, m_weightOf hh hi hW]
    rfl
  | succ d ih =>
    intro j fuel hj hf
    obtain ⟨fu, rfl⟩ : ∃ f, fuel = f + 1 := ⟨fuel - 1, by omega⟩
    rw [m_X6_weight_c34, if_pos (okI_nI (by omega) (by decide)), nI_clamp (by omega), if_neg (hne j (by omega)), nI_1]
    exact ih (j + 1) fu (by omega) (by omega)
theorem s_weight : S_weight InvR := by
  rintro x b y t0 t1 ⟨n, m, K, hn, rfl, ⟨g1, g2, g3, g4, g5, g6, g7, g8, g9, g10, g11, g12⟩, hN, hR⟩ p1
  have h49 := nn_lt hn
  obtain ⟨q1, q2, q3, -⟩ := st_ok hn g7 m g6
  suffices h : ∃ (ox : Int32 × Int32 × (Nat → Int64)) (oy : Int32 × Int32 × (Nat → Int32) × (Nat → Int32)), m_X5_weight (X_o_game_stones0 x) (X_o_game_stones1 x) (X_o_table_count x) (X_o_table_wins x) (B_size (bdn n)) (B_cells (bdn n)) (B_all (bdn n)) (B_upper (bdn n)) (B_lower (bdn n)) (B_left (bdn n)) (B_right (bdn n)) p1 = some ox ∧ m_X6_weight (Y_o_n y) (Y_o_own0 y) (Y_o_own1 y) (Y_o_holes y) (Y_o_near y) (Y_o_hole y) (Y_o_isWon y) p1 = some oy ∧ ox.1 = oy.1 by
    obtain ⟨ox, oy, e1, e2, e3⟩ := h
    exact ⟨ox, oy, e1, e2, e3, n, m, K, hn, rfl, ⟨g1, g2, g3, g4, g5, g6, g7, g8, g9, g10, g11, g12⟩, hN, hR⟩
  rw [g1, g9, g10, g11, g12]
  generalize (st n (X_o_game_list x) m).1 = s0 at *
  generalize (st n (X_o_game_list x) m).2 = s1 at *
  unfold m_X5_weight m_X6_weight
  rcases cell_cases hn p1 with ⟨a, b⟩ | ⟨j, hj, rfl, a, b⟩ <;> rw [a, b]
  · exact ⟨_, _, rfl, rfl, rfl⟩
  · rw [if_neg one_nz, if_neg one_nz, isFree_eq (by omega), free_eq hn, has_eq _ (by omega)]
    by_cases hf : tb (m_X3_free s0 s1 (full n)) j = true
    · obtain ⟨h', hS, hc⟩ := m_fills hn hN (s0 := s0) (s1 := s1) q1 (Y_o_hole y) (Y_o_isWon y)
      rw [if_pos hf, if_neg one_nz, if_neg one_nz, has12]
      rcases hc with ⟨hp, e⟩ | ⟨hp, w, e, hW⟩
      · rw [if_neg (show ¬ pc (m_X3_free s0 s1 (full n)) ≤ 12 by omega), if_pos rfl, e, bs, if_pos rfl]
        exact ⟨_, _, rfl, rfl, rfl⟩
      · have h12 := pow12 hp
        obtain ⟨w', e', hT⟩ := x_compute hn (s0 := s0) (s1 := s1) q1 hp (X_o_table_wins x)
        have hidx := hl_idx (m_X3_free s0 s1 (full n)) (n * n) 0 j hf (by omega) (by omega)
        rw [show pcb (m_X3_free s0 s1 (full n)) 0 = 0 from rfl, Nat.sub_zero] at hidx
        have hlt : pcb (m_X3_free s0 s1 (full n)) j < pc (m_X3_free s0 s1 (full n)) := by
          rw [← HL_len hn (free_sub hn s0 s1)]
          exact (List.getElem?_eq_some_iff.mp hidx).1
        have hfind := m_wei_find (q := wn n s0 (HL n (m_X3_free s0 s1 (full n)))) hp hlt (c := j) (by omega) hW (hS _ _ hidx) (fun k hk he => by
          have hk2 : k < (HL n (m_X3_free s0 s1 (full n))).length := by rw [HL_len hn (free_sub hn s0 s1)]; omega
          have hk3 : (HL n (m_X3_free s0 s1 (full n)))[k]? = some (HL n (m_X3_free s0 s1 (full n)))[k] := List.getElem?_eq_getElem hk2
          have hk4 := hS _ _ hk3
          rw [he] at hk4
          have hlt64 := HL_lt _ _ (List.getElem_mem hk2)
          have hk5 := (nI_eq (by omega) (by omega)).mp hk4
          rw [← hk5] at hk3
          have := hl_inj _ _ _ _ _ _ hk3 hidx
          omega) (pcb (m_X3_free s0 s1 (full n)) j) 0 FU (by omega) (FU_ge (by omega))
        rw [if_pos hp, if_neg one_nz, e, bs, if_neg one_nz, e', bs, bitcount, pcb_below (by omega), x_decided hp hlt hT]
        exact ⟨_, _, rfl, hfind, rfl⟩
    · rw [if_neg hf, if_pos rfl, if_pos rfl]
      exact ⟨_, _, rfl, rfl, rfl⟩
theorem setof_low {lo z : Nat} {t : List Nat} (h : Asc lo (z :: t)) : low (setof (z :: t)) z ∧ setof (z :: t) &&& (setof (z :: t) - 1) = setof t := by
  have hA := h
  obtain ⟨h1, h2, h3⟩ := h
  have hlow : low (setof (z :: t)) z := by
    refine ⟨h2, (tb_setof hA z).mpr (List.mem_cons_self ..), fun k hk => ?_⟩
    cases q : tb (setof (z :: t)) k
    · rfl
    · have := (tb_setof hA k).mp q
      rcases List.mem_cons.mp this with w | w
      · omega
      · have := (Asc_ge h3 k w).1; omega
  refine ⟨hlow, ?_⟩
  apply tb_ext
  intro k hk
  rw [low_clear hlow hk]
  apply bool_ext
  rw [Bool.and_eq_true, tb_setof hA k, tb_setof h3 k, List.mem_cons]
  simp only [Bool.not_eq_true', decide_eq_false_iff_not]
  constructor
  · rintro ⟨a | a, b⟩
    · exact absurd a b
    · exact a
  · intro a
    have := (Asc_ge h3 k a).1
    exact ⟨Or.inr a, by omega⟩
theorem x_dead_loop {q : Nat → Bool} {h : Nat} (hh : h ≤ 12) {wins : Nat → Int64} (hT : Tb (fun g => decide (g < 2 ^ h) && q g) wins) {l : List Nat} (hlen : l.length = h) : ∀ (l2 l1 : List Nat) (lo fuel : Nat) (acc : Int64), l1 ++ l2 = l → Asc lo l2 → l2.length + 1 ≤ fuel → ∃ r, m_X5_dead_c37 fuel (setof l2) acc (nI l1.length) (nI h) wins = some (r, nI h, wins) ∧ ∀ (hole isWon : Nat → Int32), Sto l hole → (∀ g, g < 2 ^ h → isWon g = bi (q g)) → m_X6_dead_c15 fuel acc (nI l1.length) (nI h) hole isWon = some (r, nI h, hole, isWon) := by
  intro l2
  induction l2 with
  | nil =>
    intro l1 lo fuel acc hl hA hf
    obtain ⟨fu, rfl⟩ : ∃ f, fuel = f + 1 := ⟨fuel - 1, by omega⟩
    rw [List.append_nil] at hl
    subst hl
    refine ⟨acc, ?_, fun hole isWon hS hW => ?_⟩
    · rw [m_X5_dead_c37]
      by_cases z : (12 : Int32) ≤ nI l1.length
      · rw [if_pos z]
      · rw [if_neg z, if_pos (show setof [] = 0 from rfl)]
    · rw [m_X6_dead_c15, hlen, if_pos (nI_le (Nat.le_refl _) (by omega))]
  | cons z l2 ih =>
    intro l1 lo fuel acc hl hA hf
    obtain ⟨fu, rfl⟩ : ∃ f, fuel = f + 1 := ⟨fuel - 1, by omega⟩
    rw [List.length_cons] at hf
    obtain ⟨hlow, hcl⟩ := setof_low hA
    have hlen2 : l.length = l1.length + (l2.length + 1) := by rw [← hl, List.length_append, List.length_cons]
    have eq1 : (l1 ++ [z]) ++ l2 = l := by rw [← hl, List.append_assoc]; rfl
    have el : (l1 ++ [z]).length = l1.length + 1 := by rw [List.length_append]; rfl
    obtain ⟨r, r1, r2⟩ := ih (l1 ++ [z]) (z + 1) fu (if cnt (wp q l1.length) (2 ^ h) = 0 then acc ||| jshl 1 (nI z) else acc) eq1 hA.2.2 (by omega)
    rw [el] at r1 r2
    have h12 := pow12 hh
    have hcle := cnt_le (wp q l1.length) (2 ^ h)
    refine ⟨r, ?_, fun hole isWon hS hW => ?_⟩
    · rw [m_X5_dead_c37, if_neg (show ¬ (12 : Int32) ≤ nI l1.length from nI_ge (a := l1.length) (b := 12) (by omega) (by decide)), if_neg (tb_ne hlow.2.1), x_decided hh (by omega) hT, bs]
      unfold m_X5_dead_c69
      rw [hcl, nI_1, low_iso hlow]
      by_cases w : cnt (wp q l1.length) (2 ^ h) = 0
      · rw [if_pos (by rw [w]; rfl)]
        rw [if_pos w] at r1
        exact r1
      · rw [if_neg (nI_ne0 (by omega) (by omega))]
        rw [if_neg w] at r1
        exact r1
    · have hz : hole l1.length = nI z := hS l1.length z (by rw [← hl, List.getElem?_append, if_neg (by omega), Nat.sub_self]; rfl)
      have r3 := r2 hole isWon hS hW
      rw [m_X6_dead_c15, if_neg (nI_ge (a := l1.length) (b := h) (by omega) (by omega)), m_weightOf hh (by omega) hW, bs]
      unfold m_X6_dead_c44
      rw [nI_1]
      by_cases w : cnt (wp q l1.length) (2 ^ h) = 0
      · rw [if_pos (by rw [w]; rfl), if_pos (okI_nI (by omega) (by decide)), nI_clamp (by omega), hz]
        rw [if_pos w] at r3
        exact r3
      · rw [if_neg (nI_ne0 (by omega) (by omega)), or_zero]
        rw [if_neg w] at r3
        exact r3
theorem s_dead : S_dead InvR := by
  rintro x b y t0 t1 ⟨n, m, K, hn, rfl, ⟨g1, g2, g3, g4, g5, g6, g7, g8, g9, g10, g11, g12⟩, hN, hR⟩
  have h49 := nn_lt hn
  obtain ⟨q1, q2, q3, -⟩ := st_ok hn g7 m g6
  suffices h : ∃ (ox : Int64 × Int32 × (Nat → Int64)) (oy : Int64 × Int32 × (Nat → Int32) × (Nat → Int32)), m_X5_dead (X_o_game_stones0 x) (X_o_game_stones1 x) (X_o_table_count x) (X_o_table_wins x) (B_size (bdn n)) (B_cells (bdn n)) (B_all (bdn n)) (B_upper (bdn n)) (B_lower (bdn n)) (B_left (bdn n)) (B_right (bdn n)) = some ox ∧ m_X6_dead (Y_o_n y) (Y_o_own0 y) (Y_o_own1 y) (Y_o_near y) (Y_o_hole y) (Y_o_isWon y) = some oy ∧ ox.1 = oy.1 by
    obtain ⟨ox, oy, e1, e2, e3⟩ := h
    exact ⟨ox, oy, e1, e2, e3, n, m, K, hn, rfl, ⟨g1, g2, g3, g4, g5, g6, g7, g8, g9, g10, g11, g12⟩, hN, hR⟩
  rw [g1, g9, g10, g11, g12]
  generalize (st n (X_o_game_list x) m).1 = s0 at *
  generalize (st n (X_o_game_list x) m).2 = s1 at *
  unfold m_X5_dead m_X6_dead
  obtain ⟨h', hS, hc⟩ := m_fills hn hN (s0 := s0) (s1 := s1) q1 (Y_o_hole y) (Y_o_isWon y)
  rw [has12]
  rcases hc with ⟨hp, e⟩ | ⟨hp, w, e, hW⟩
  · rw [if_neg (show ¬ pc (m_X3_free s0 s1 (full n)) ≤ 12 by omega), if_pos rfl, e, bs, if_pos rfl]
    exact ⟨_, _, rfl, rfl, rfl⟩
  · obtain ⟨w', e', hT⟩ := x_compute hn (s0 := s0) (s1 := s1) q1 hp (X_o_table_wins x)
    have hlen := HL_len hn (free_sub hn s0 s1)
    obtain ⟨r, r1, r2⟩ := x_dead_loop hp hT hlen (HL n (m_X3_free s0 s1 (full n))) [] 0 FU 0 rfl (hl_asc _ _ _) (by rw [hlen]; exact FU_ge (by omega))
    rw [HL_set hn (free_sub hn s0 s1)] at r1
    rw [if_pos hp, if_neg one_nz, e, bs, if_neg one_nz, e', bs]
    exact ⟨_, _, r1, r2 h' w hS hW, rfl⟩

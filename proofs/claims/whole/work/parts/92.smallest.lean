/-! smallestFull -/
theorem dep_zero_iff : ∀ {lo : Nat} {l : List Nat}, Asc lo l → ∀ f, f < 2 ^ l.length → dep l f = 0 → f = 0
  | _, [], _, f, h, _ => by rw [List.length_nil, Nat.pow_zero] at h; omega
  | lo, x :: t, ⟨h1, h2, h3⟩, f, h, e => by
    rw [List.length_cons, Nat.pow_succ] at h
    have e' : (if f % 2 = 1 then jshl 1 (nI x) else 0) ||| dep t (f / 2) = 0 := e
    have hz := eq_zero_iff.mp e'
    have ht : dep t (f / 2) = 0 := by
      rw [eq_zero_iff]
      intro k
      have := hz k
      rw [tb_or, Bool.or_eq_false_iff] at this
      exact this.2
    have := dep_zero_iff h3 (f / 2) (by omega) ht
    by_cases q : f % 2 = 1
    · exfalso
      have := hz x
      rw [if_pos q, tb_or, tb_one h2 h2] at this
      simp at this
    · omega
theorem dep_full : ∀ (l : List Nat), dep l (2 ^ l.length - 1) = setof l
  | [] => rfl
  | x :: t => by
    rw [List.length_cons]
    have hp := Nat.pow_pos (n := t.length) (show 0 < 2 by decide)
    have e1 : 2 ^ (t.length + 1) - 1 = 2 * (2 ^ t.length - 1) + 1 := by rw [Nat.pow_succ]; omega
    rw [e1]
    show (if (2 * (2 ^ t.length - 1) + 1) % 2 = 1 then jshl 1 (nI x) else 0) ||| dep t ((2 * (2 ^ t.length - 1) + 1) / 2) = jshl 1 (nI x) ||| setof t
    rw [if_pos (by omega), show (2 * (2 ^ t.length - 1) + 1) / 2 = 2 ^ t.length - 1 by omega, dep_full t]
theorem dep_prev {lo : Nat} {l : List Nat} (hA : Asc lo l) {f : Nat} (hf : f + 1 < 2 ^ l.length) : (dep l (f + 1) - 1) &&& setof l = dep l f := by
  rcases dep_next hA f with ⟨-, h⟩ | ⟨z, hz, hr⟩
  · have := dep_zero_iff hA (f + 1) hf h
    omega
  · obtain ⟨hz64, hz1, hz2⟩ := hz
    have hlow : low (dep l (f + 1)) z := ⟨hz64, by rw [hr z hz64]; simp, fun k hk => by rw [hr k (by omega)]; simp; omega⟩
    apply tb_ext
    intro k hk
    rw [tb_and, tb_pred hlow hk, hr k hk]
    have hs := dep_sub hA f k
    rw [tb_and, tb_not _ hz64, Bool.and_eq_true] at hz1
    rcases Nat.lt_trichotomy k z with q | q | q
    · have := hz2 k q
      rw [tb_and, tb_not _ hk] at this
      cases e1 : tb (setof l) k <;> cases e2 : tb (dep l f) k <;> simp_all
    · subst q
      have : tb (dep l f) k = false := by simpa using hz1.2
      rw [this]
      simp
    · have e1 : decide (k < z) = false := decide_eq_false (by omega)
      have e2 : decide (k = z) = false := decide_eq_false (by omega)
      have e3 : decide (z < k) = true := decide_eq_true q
      rw [e1, e2, e3]
      cases e4 : tb (dep l f) k
      · simp
      · rw [hs e4]; rfl
def BB (b0 : Nat) (q : Nat → Bool) (z : Nat → Nat) (S : Nat → Prop) (b : Nat) : Prop := (b = b0 ∨ ∃ g, S g ∧ q g = true ∧ z g = b) ∧ b ≤ b0 ∧ ∀ g, S g → q g = true → b ≤ z g
def nb1 (b : Nat) (q : Bool) (z : Nat) : Nat := if b ≤ z then b else if q = true then z else b
theorem nb1_le (b : Nat) (q : Bool) (z : Nat) : nb1 b q z ≤ b := by unfold nb1; split; exact Nat.le_refl _; split <;> omega
theorem BB_step {b0 : Nat} {q : Nat → Bool} {z : Nat → Nat} {S T : Nat → Prop} {b f : Nat} (h : BB b0 q z S b) (hT : ∀ g, T g ↔ S g ∨ g = f) : BB b0 q z T (nb1 b (q f) (z f)) := by
  obtain ⟨h1, h2, h3⟩ := h
  have keep : (q f = true → b ≤ z f) → BB b0 q z T b := by
    intro hb
    refine ⟨?_, h2, fun g hg hq => ?_⟩
    · rcases h1 with e | ⟨g, g1, g2⟩
      · exact Or.inl e
      · exact Or.inr ⟨g, (hT g).mpr (Or.inl g1), g2⟩
    · rcases (hT g).mp hg with e | e
      · exact h3 g e hq
      · subst e; exact hb hq
  unfold nb1
  by_cases w : b ≤ z f
  · rw [if_pos w]; exact keep (fun _ => w)
  · rw [if_neg w]
    cases hq : q f
    · rw [if_neg (by decide)]
      exact keep (fun e => by rw [hq] at e; cases e)
    · rw [if_pos rfl]
      refine ⟨Or.inr ⟨f, (hT f).mpr (Or.inr rfl), hq, rfl⟩, by omega, fun g hg hqg => ?_⟩
      rcases (hT g).mp hg with e | e
      · have := h3 g e hqg; omega
      · subst e; exact Nat.le_refl _
theorem BB_same {q : Nat → Bool} {z : Nat → Nat} {S : Nat → Prop} {b1 b2 : Nat} (h1 : BB 7 q z S b1) (h2 : BB 100 q z S b2) (hz : ∀ g, S g → z g ≤ 6) : (6 < b1 ∧ b2 = 100) ∨ (b1 ≤ 6 ∧ b2 = b1) := by
  obtain ⟨a1, a2, a3⟩ := h1
  obtain ⟨c1, c2, c3⟩ := h2
  rcases a1 with e | ⟨g, g1, g2, g3⟩
  · left
    refine ⟨by omega, ?_⟩
    rcases c1 with w | ⟨g, g1, g2, g3⟩
    · exact w
    · have := a3 g g1 g2
      have := hz g g1
      omega
  · right
    have h6 := hz g g1
    have hc := c3 g g1 g2
    refine ⟨by omega, ?_⟩
    rcases c1 with w | ⟨g', k1, k2, k3⟩
    · omega
    · have := a3 g' k1 k2
      omega
theorem x_small {n : Nat} (hn : 2 ≤ n ∧ n ≤ 7) {s0 s1 : Int64} {p : Int32} (hown : sub (m_X3_stonesOf s0 s1 p) (full n)) (p2 p3 : Int32) {l : List Nat} (hA : Asc 0 l) (hl : l.length ≤ 6) (hlf : sub (setof l) (full n)) (hpl : pc (setof l) ≤ 6) (z0 : Nat) : ∀ (d f fuel b : Nat) (r : Nat) (cf ct : Int64) (cs cm : Nat → Int64), f + d = 2 ^ l.length → d + 1 ≤ fuel → BB 7 (fun f => can n (m_X0_cellsOf (B_upper (bdn n)) (B_lower (bdn n)) (B_left (bdn n)) (B_right (bdn n)) p2) (m_X0_cellsOf (B_upper (bdn n)) (B_lower (bdn n)) (B_left (bdn n)) (B_right (bdn n)) p3) (m_X3_stonesOf s0 s1 p) (dep l f) false) (fun f => pc (dep l f)) (fun g => g < f) b → ∃ (b' : Nat) (st : Nat × Int64 × Int64 × (Nat → Int64) × (Nat → Int64)), m_X5_smallestFull_c40 z0 s0 s1 (B_size (bdn n)) (B_cells (bdn n)) (B_all (bdn n)) (B_upper (bdn n)) (B_lower (bdn n)) (B_left (bdn n)) (B_right (bdn n)) p p2 p3 (setof l) fuel (nI b) (nI (2 ^ l.length)) (dep l f) (nI f) r cf ct cs cm = some (if 6 < b' then -15 else nI b', st) ∧ BB 7 (fun f => can n (m_X0_cellsOf (B_upper (bdn n)) (B_lower (bdn n)) (B_left (bdn n)) (B_right (bdn n)) p2) (m_X0_cellsOf (B_upper (bdn n)) (B_lower (bdn n)) (B_left (bdn n)) (B_right (bdn n)) p3) (m_X3_stonesOf s0 s1 p) (dep l f) false) (fun f => pc (dep l f)) (fun g => g < 2 ^ l.length) b' := by
  have h64 : 2 ^ l.length ≤ 64 := Nat.pow_le_pow_right (n := 2) (j := 6) (by decide) hl
  intro d
  induction d with
  | zero =>
    intro f fuel b r cf ct cs cm hi hf hB
    obtain ⟨fu, rfl⟩ : ∃ f, fuel = f + 1 := ⟨fuel - 1, by omega⟩
    have e : f = 2 ^ l.length := by omega
    subst e
    have hb7 := hB.2.1
    refine ⟨b, (r, cf, ct, cs, cm), ?_, hB⟩
    rw [m_X5_smallestFull_c40, if_pos (nI_le (Nat.le_refl _) (by omega))]
    by_cases w : 6 < b
    · rw [if_pos (show (6 : Int32) < nI b from nI_lt (a := 6) w (by omega)), if_pos w]
    · rw [if_neg (show ¬ (6 : Int32) < nI b from nI_nlt (a := 6) (by omega) (by decide)), if_neg w]
  | succ d ih =>
    intro f fuel b r cf ct cs cm hi hf hB
    obtain ⟨fu, rfl⟩ : ∃ f, fuel = f + 1 := ⟨fuel - 1, by omega⟩
    have hb7 := hB.2.1
    have hsub := dep_sub hA f
    have hpf : pc (dep l f) ≤ 6 := Nat.le_trans (pc_mono hsub) hpl
    have hB' := BB_step (f := f) (T := fun g => g < f + 1) hB (fun g => by omega)
    have go : ∀ (b1 : Nat), b1 = nb1 b (can n (m_X0_cellsOf (B_upper (bdn n)) (B_lower (bdn n)) (B_left (bdn n)) (B_right (bdn n)) p2) (m_X0_cellsOf (B_upper (bdn n)) (B_lower (bdn n)) (B_left (bdn n)) (B_right (bdn n)) p3) (m_X3_stonesOf s0 s1 p) (dep l f) false) (pc (dep l f)) → ∀ (r : Nat) (cf ct : Int64) (cs cm : Nat → Int64), ∃ (b' : Nat) (st : Nat × Int64 × Int64 × (Nat → Int64) × (Nat → Int64)), m_X5_smallestFull_c78 (setof l) (m_X5_smallestFull_c40 z0 s0 s1 (B_size (bdn n)) (B_cells (bdn n)) (B_all (bdn n)) (B_upper (bdn n)) (B_lower (bdn n)) (B_left (bdn n)) (B_right (bdn n)) p p2 p3 (setof l) fu) (nI b1) (nI (2 ^ l.length)) (dep l f) (nI f) r cf ct cs cm = some (if 6 < b' then -15 else nI b', st) ∧ BB 7 (fun f => can n (m_X0_cellsOf (B_upper (bdn n)) (B_lower (bdn n)) (B_left (bdn n)) (B_right (bdn n)) p2) (m_X0_cellsOf (B_upper (bdn n)) (B_lower (bdn n)) (B_left (bdn n)) (B_right (bdn n)) p3) (m_X3_stonesOf s0 s1 p) (dep l f) false) (fun f => pc (dep l f)) (fun g => g < 2 ^ l.length) b' := by
      intro b1 e1 r cf ct cs cm
      unfold m_X5_smallestFull_c78
      rw [x_next_dep hA f, nI_1]
      refine ih (f + 1) fu b1 r cf ct cs cm (by omega) (by omega) ?_
      rw [e1]
      exact hB'
    rw [m_X5_smallestFull_c40, if_neg (nI_ge (show f < 2 ^ l.length by omega) (by omega)), bitcount]
    by_cases w : b ≤ pc (dep l f)
    · rw [if_pos (nI_le w (by omega))]
      exact go b (by unfold nb1; rw [if_pos w]) _ _ _ _ _
    · rw [if_neg (nI_ge (show pc (dep l f) < b by omega) (by omega))]
      obtain ⟨sp', me', c1⟩ := x_can hn hown p2 p3 (sub_trans hsub hlf) (by omega) false cs cm
      rw [show m_X5_canConnect s0 s1 cs cm (B_size (bdn n)) (B_cells (bdn n)) (B_all (bdn n)) (B_upper (bdn n)) (B_lower (bdn n)) (B_left (bdn n)) (B_right (bdn n)) p p2 p3 (dep l f) 0 = _ from c1, bs]
      cases hq : can n (m_X0_cellsOf (B_upper (bdn n)) (B_lower (bdn n)) (B_left (bdn n)) (B_right (bdn n)) p2) (m_X0_cellsOf (B_upper (bdn n)) (B_lower (bdn n)) (B_left (bdn n)) (B_right (bdn n)) p3) (m_X3_stonesOf s0 s1 p) (dep l f) false
      · rw [if_pos (show bi false = 0 by decide)]
        exact go b (by unfold nb1; rw [if_neg w, hq, if_neg (by decide)]) _ _ _ _ _
      · rw [if_neg (show ¬ bi true = 0 by decide)]
        exact go (pc (dep l f)) (by unfold nb1; rw [if_neg w, hq, if_pos rfl]) _ _ _ _ _
theorem m_small {n : Nat} (hn : 2 ≤ n ∧ n ≤ 7) {near : Nat → Int64} (hN : Near n near) {s0 s1 : Int64} {p : Nat} (hp2 : p < 2) (hown : sub (m_X3_stonesOf s0 s1 (nI p)) (full n)) {p2 p3 : Int32} {fr to : Int64} (hfr : m_X6_place (nI n) p2 = some fr) (hto : m_X6_place (nI n) p3 = some to) {l : List Nat} (hA : Asc 0 l) (hl : l.length ≤ 6) (hlf : sub (setof l) (full n)) (hpl : pc (setof l) ≤ 6) : ∀ (f fuel b : Nat) (holes : Int32) (hole won lasts power : Nat → Int32), f < 2 ^ l.length → f + 2 ≤ fuel → BB 100 (fun f => can n fr to (m_X3_stonesOf s0 s1 (nI p)) (dep l f) false) (fun f => pc (dep l f)) (fun g => f < g ∧ g < 2 ^ l.length) b → LI lasts → ∃ (b' : Nat) (holes' : Int32) (hole' won' lasts' power' : Nat → Int32), m_X6_smallestFull_c38 (nI n) s0 s1 near (nI p) p2 p3 (setof l) fuel (nI b) (dep l f) 1 holes hole won lasts power = some (if b' = 100 then -15 else nI b', holes', hole', won', lasts', power') ∧ BB 100 (fun f => can n fr to (m_X3_stonesOf s0 s1 (nI p)) (dep l f) false) (fun f => pc (dep l f)) (fun g => g < 2 ^ l.length) b' ∧ LI lasts' := by
  have h64 : 2 ^ l.length ≤ 64 := Nat.pow_le_pow_right (n := 2) (j := 6) (by decide) hl
  intro f
  induction f with
  | zero =>
    intro fuel b holes hole won lasts power hf0 hf hB hL
    obtain ⟨fu, rfl⟩ : ∃ f, fuel = f + 1 + 1 := ⟨fuel - 2, by omega⟩
    have hb := hB.2.1
    have hsub := dep_sub hA 0
    have hpf : pc (dep l 0) ≤ 6 := Nat.le_trans (pc_mono hsub) hpl
    have hB' := BB_step (f := 0) (T := fun g => g < 2 ^ l.length) hB (fun g => by omega)
    have go : ∀ (b1 : Nat), b1 = nb1 b (can n fr to (m_X3_stonesOf s0 s1 (nI p)) (dep l 0) false) (pc (dep l 0)) → ∀ (holes : Int32) (hole won lasts power : Nat → Int32), LI lasts → ∃ (b' : Nat) (holes' : Int32) (hole' won' lasts' power' : Nat → Int32), m_X6_smallestFull_c75 (setof l) (m_X6_smallestFull_c38 (nI n) s0 s1 near (nI p) p2 p3 (setof l) (fu + 1)) (nI b1) (dep l 0) holes hole won lasts power = some (if b' = 100 then -15 else nI b', holes', hole', won', lasts', power') ∧ BB 100 (fun f => can n fr to (m_X3_stonesOf s0 s1 (nI p)) (dep l f) false) (fun f => pc (dep l f)) (fun g => g < 2 ^ l.length) b' ∧ LI lasts' := by
      intro b1 e1 holes hole won lasts power hL
      unfold m_X6_smallestFull_c75 m_X6_smallestFull_c87
      rw [if_pos (dep_zero l), m_X6_smallestFull_c38, if_pos rfl]
      have hb1 : b1 ≤ 100 := by rw [e1]; exact Nat.le_trans (nb1_le _ _ _) hb
      refine ⟨b1, holes, hole, won, lasts, power, ?_, by rw [e1]; exact hB', hL⟩
      by_cases w : b1 = 100
      · rw [if_pos (show nI b1 = 100 by rw [w]; rfl), if_pos w]
      · rw [if_neg (show ¬ nI b1 = 100 from fun h => w ((nI_eq (b := 100) (by omega) (by decide)).mp h)), if_neg w]
    rw [m_X6_smallestFull_c38, if_neg (by decide), m_size, bs]
    by_cases w : b ≤ pc (dep l 0)
    · rw [if_pos (nI_le w (by omega))]
      exact go b (by unfold nb1; rw [if_pos w]) _ _ _ _ _ hL
    · rw [if_neg (nI_ge (show pc (dep l 0) < b by omega) (by omega)), one_minus hp2]
      obtain ⟨h1, w1, l1, pw1, d1, L1⟩ := m_connects hn hN hp2 (g := 1 - p) (by omega) hown hfr hto (sub_trans hsub hlf) (by omega) hole won lasts power hL
      rw [other_ne hp2] at d1
      rw [d1, bs]
      cases hq : can n fr to (m_X3_stonesOf s0 s1 (nI p)) (dep l 0) false
      · rw [if_pos (show bi false = 0 by decide)]
        exact go b (by unfold nb1; rw [if_neg w, hq, if_neg (by decide)]) _ _ _ _ _ L1
      · rw [if_neg (show ¬ bi true = 0 by decide), bs]
        exact go (pc (dep l 0)) (by unfold nb1; rw [if_neg w, hq, if_pos rfl]) _ _ _ _ _ L1
  | succ f ih =>
    intro fuel b holes hole won lasts power hf0 hf hB hL
    obtain ⟨fu, rfl⟩ : ∃ f, fuel = f + 1 := ⟨fuel - 1, by omega⟩
    have hb := hB.2.1
    have hsub := dep_sub hA (f + 1)
    have hpf : pc (dep l (f + 1)) ≤ 6 := Nat.le_trans (pc_mono hsub) hpl
    have hB' := BB_step (f := f + 1) (T := fun g => f < g ∧ g < 2 ^ l.length) hB (fun g => by omega)
    have go : ∀ (b1 : Nat), b1 = nb1 b (can n fr to (m_X3_stonesOf s0 s1 (nI p)) (dep l (f + 1)) false) (pc (dep l (f + 1))) → ∀ (holes : Int32) (hole won lasts power : Nat → Int32), LI lasts → ∃ (b' : Nat) (holes' : Int32) (hole' won' lasts' power' : Nat → Int32), m_X6_smallestFull_c75 (setof l) (m_X6_smallestFull_c38 (nI n) s0 s1 near (nI p) p2 p3 (setof l) fu) (nI b1) (dep l (f + 1)) holes hole won lasts power = some (if b' = 100 then -15 else nI b', holes', hole', won', lasts', power') ∧ BB 100 (fun f => can n fr to (m_X3_stonesOf s0 s1 (nI p)) (dep l f) false) (fun f => pc (dep l f)) (fun g => g < 2 ^ l.length) b' ∧ LI lasts' := by
      intro b1 e1 holes hole won lasts power hL
      unfold m_X6_smallestFull_c75 m_X6_smallestFull_c87
      rw [if_neg (fun h => absurd (dep_zero_iff hA (f + 1) hf0 h) (by omega)), dep_prev hA hf0]
      refine ih fu b1 holes hole won lasts power (by omega) (by omega) ?_ hL
      rw [e1]
      exact hB'
    rw [m_X6_smallestFull_c38, if_neg (by decide), m_size, bs]
    by_cases w : b ≤ pc (dep l (f + 1))
    · rw [if_pos (nI_le w (by omega))]
      exact go b (by unfold nb1; rw [if_pos w]) _ _ _ _ _ hL
    · rw [if_neg (nI_ge (show pc (dep l (f + 1)) < b by omega) (by omega)), one_minus hp2]
      obtain ⟨h1, w1, l1, pw1, d1, L1⟩ := m_connects hn hN hp2 (g := 1 - p) (by omega) hown hfr hto (sub_trans hsub hlf) (by omega) hole won lasts power hL
      rw [other_ne hp2] at d1
      rw [d1, bs]
      cases hq : can n fr to (m_X3_stonesOf s0 s1 (nI p)) (dep l (f + 1)) false
      · rw [if_pos (show bi false = 0 by decide)]
        exact go b (by unfold nb1; rw [if_neg w, hq, if_neg (by decide)]) _ _ _ _ _ L1
      · rw [if_neg (show ¬ bi true = 0 by decide), bs]
        exact go (pc (dep l (f + 1))) (by unfold nb1; rw [if_neg w, hq, if_pos rfl]) _ _ _ _ _ L1
theorem s_smallestFull : S_smallestFull InvL := by
  rintro x b y t0 t1 ⟨⟨n, m, K, hn, rfl, ⟨g1, g2, g3, g4, g5, g6, g7, g8, g9, g10, g11, g12⟩, hN, hR⟩, hL⟩ p1 p2 p3 p4
  obtain ⟨q1, q2, q3, -⟩ := st_ok hn g7 m g6
  suffices h : ∃ (ox : Int32 × Nat × Int64 × Int64 × (Nat → Int64) × (Nat → Int64)) (oy : Int32 × Int32 × (Nat → Int32) × (Nat → Int32) × (Nat → Int32) × (Nat → Int32)), m_X5_smallestFull (X_o_game_board x) (X_o_game_stones0 x) (X_o_game_stones1 x) (X_o_contest_board x) (X_o_contest_from x) (X_o_contest_to x) (X_o_contest_spots x) (X_o_contest_memo x) (B_size (bdn n)) (B_cells (bdn n)) (B_all (bdn n)) (B_upper (bdn n)) (B_lower (bdn n)) (B_left (bdn n)) (B_right (bdn n)) p1 p2 p3 p4 = some ox ∧ m_X6_smallestFull (Y_o_n y) (Y_o_own0 y) (Y_o_own1 y) (Y_o_holes y) (Y_o_near y) (Y_o_hole y) (Y_o_won y) (Y_o_lasts y) (Y_o_power y) p1 p2 p3 p4 = some oy ∧ ox.1 = oy.1 ∧ LI oy.2.2.2.2.1 by
    obtain ⟨ox, oy, e1, e2, e3, e4⟩ := h
    exact ⟨ox, oy, e1, e2, e3, ⟨n, m, K, hn, rfl, ⟨g1, g2, g3, g4, g5, g6, g7, g8, g9, g10, g11, g12⟩, hN, hR⟩, e4⟩
  rw [g1, g9, g10, g11, g12]
  generalize (st n (X_o_game_list x) m).1 = s0 at *
  generalize (st n (X_o_game_list x) m).2 = s1 at *
  unfold m_X5_smallestFull m_X6_smallestFull
  rw [jl]
  rcases error_cases hn s0 s1 p1 p2 p3 p4 (L := 6) (by decide) with ⟨a1, a2⟩ | ⟨a2, ⟨a1, a3⟩ | ⟨a1, a3, hP, hc, ⟨p, hp2, rfl⟩, hfr, hto⟩⟩
  · rw [show m_X5_regionError s0 s1 (B_cells (bdn n)) (B_all (bdn n)) p1 p2 p3 p4 6 = -11 from a1, if_neg (by decide), a2, if_pos rfl]
    exact ⟨_, _, rfl, rfl, rfl, hL⟩
  · rw [show m_X5_regionError s0 s1 (B_cells (bdn n)) (B_all (bdn n)) p1 p2 p3 p4 6 = -12 from a1, if_neg (by decide), a2, if_neg one_nz, show m_X6_isRegion (nI n) s0 s1 p4 6 = some 0 from a3, bs, if_pos rfl]
    exact ⟨_, _, rfl, rfl, rfl, hL⟩
  · rw [show m_X5_regionError s0 s1 (B_cells (bdn n)) (B_all (bdn n)) (nI p) p2 p3 p4 6 = 0 from a1, if_pos (by decide), a2, if_neg one_nz, show m_X6_isRegion (nI n) s0 s1 p4 6 = some 1 from a3, bs, if_neg one_nz]
    have hown := own_full q1 q2 (nI p)
    have hPf := sub_trans hP (free_sub hn s0 s1)
    have hA : Asc 0 (HL n p4) := hl_asc _ _ _
    have hlen := HL_len hn hPf
    have hset := HL_set hn hPf
    rw [bitcount, one_shl (by omega), ← hlen]
    generalize HL n p4 = l at *
    subst hset
    have hl6 : l.length ≤ 6 := by omega
    have hpw := Nat.pow_pos (n := l.length) (show 0 < 2 by decide)
    have h64 : 2 ^ l.length ≤ 64 := Nat.pow_le_pow_right (n := 2) (j := 6) (by decide) hl6
    obtain ⟨b1, st1, e1, B1⟩ := x_small hn hown p2 p3 hA hl6 hPf hc (X_o_game_board x) (2 ^ l.length) 0 FU 7 (X_o_contest_board x) (X_o_contest_from x) (X_o_contest_to x) (X_o_contest_spots x) (X_o_contest_memo x) (by omega) (FU_ge (by omega)) ⟨Or.inl rfl, Nat.le_refl _, fun g hg => absurd hg (by omega)⟩
    obtain ⟨b2, holes', hole', won', lasts', power', e2, B2, L2⟩ := m_small hn hN hp2 hown hfr hto hA hl6 hPf hc (2 ^ l.length - 1) FU 100 (Y_o_holes y) (Y_o_hole y) (Y_o_won y) (Y_o_lasts y) (Y_o_power y) (by omega) (FU_ge (by omega)) ⟨Or.inl rfl, Nat.le_refl _, fun g hg => absurd hg (by omega)⟩ hL
    rw [dep_zero] at e1
    rw [dep_full] at e2
    refine ⟨_, _, e1, e2, ?_, L2⟩
    rcases BB_same B1 B2 (fun g _ => Nat.le_trans (pc_mono (dep_sub hA g)) hc) with ⟨k1, k2⟩ | ⟨k1, k2⟩
    · show (if 6 < b1 then (-15 : Int32) else nI b1) = if b2 = 100 then -15 else nI b2
      rw [if_pos k1, if_pos k2]
    · show (if 6 < b1 then (-15 : Int32) else nI b1) = if b2 = 100 then -15 else nI b2
      rw [if_neg (by omega), if_neg (by omega), k2]
/-! addThreat -/
theorem s_addThreat : S_addThreat InvL := by
  rintro x b y t0 t1 ⟨⟨n, m, K, hn, rfl, ⟨g1, g2, g3, g4, g5, g6, g7, g8, g9, g10, g11, g12⟩, hN, ⟨cT, r1, r2, r3, r4⟩, hR⟩, hL⟩ p1 p2
  obtain ⟨q1, q2, q3, -⟩ := st_ok hn g7 m g6
  suffices h : ∃ (ox : Int32 × Int32 × Nat × Int64 × Int64 × (Nat → Int64) × (Nat → Int64) × (Nat → Int32) × (Nat → Int64)) (oy : Int32 × Int32 × Int32 × (Nat → Int32) × (Nat → Int64) × (Nat → Int32) × (Nat → Int32) × (Nat → Int32) × (Nat → Int32)), m_X5_addThreat (X_o_game_board x) (X_o_threatCount x) (X_o_game_stones0 x) (X_o_game_stones1 x) (X_o_contest_board x) (X_o_contest_from x) (X_o_contest_to x) (X_o_contest_spots x) (X_o_contest_memo x) (X_o_threatPlayers x) (X_o_threatRegions x) (B_size (bdn n)) (B_cells (bdn n)) (B_all (bdn n)) (B_upper (bdn n)) (B_lower (bdn n)) (B_left (bdn n)) (B_right (bdn n)) p1 p2 = some ox ∧ m_X6_addThreat (Y_o_n y) (Y_o_own0 y) (Y_o_own1 y) (Y_o_threatMany y) (Y_o_holes y) (Y_o_near y) (Y_o_threatOf y) (Y_o_threatSet y) (Y_o_hole y) (Y_o_won y) (Y_o_lasts y) (Y_o_power y) p1 p2 = some oy ∧ ox.1 = oy.1 ∧ LI oy.2.2.2.2.2.2.2.1 ∧ TI ox.2.1 ox.2.2.2.2.2.2.2.1 ox.2.2.2.2.2.2.2.2 oy.2.1 oy.2.2.2.1 oy.2.2.2.2.1 by
    obtain ⟨ox, oy, e1, e2, e3, e4, e5⟩ := h
    exact ⟨ox, oy, e1, e2, e3, ⟨n, m, K, hn, rfl, ⟨g1, g2, g3, g4, g5, g6, g7, g8, g9, g10, g11, g12⟩, hN, e5, hR⟩, e4⟩
  rw [g1, g9, g10, g11, g12, r2, r3]
  generalize (st n (X_o_game_list x) m).1 = s0 at *
  generalize (st n (X_o_game_list x) m).2 = s1 at *
  have hTI : TI (nI cT) (X_o_threatPlayers x) (X_o_threatRegions x) (nI cT) (Y_o_threatOf y) (Y_o_threatSet y) := ⟨cT, r1, rfl, rfl, r4⟩
  have key : ∀ v4 u4 : Int32, (m_X5_isPlayer p1 = 1 → ∃ p, p < 2 ∧ p1 = nI p ∧ v4 = -1 - 2 * nI p ∧ u4 = -2 - 2 * nI p) → ¬ v4 = u4 → m_X5_isPlace (B_cells (bdn n)) v4 = 1 → m_X5_isPlace (B_cells (bdn n)) u4 = 1 → ∃ (ox : Int32 × Int32 × Nat × Int64 × Int64 × (Nat → Int64) × (Nat → Int64) × (Nat → Int32) × (Nat → Int64)) (oy : Int32 × Int32 × Int32 × (Nat → Int32) × (Nat → Int64) × (Nat → Int32) × (Nat → Int32) × (Nat → Int32) × (Nat → Int32)), m_X5_addThreat_c23 (X_o_game_board x) s0 s1 (B_size (bdn n)) (B_cells (bdn n)) (B_all (bdn n)) (B_upper (bdn n)) (B_lower (bdn n)) (B_left (bdn n)) (B_right (bdn n)) p1 p2 v4 u4 (nI cT) (X_o_contest_board x) (X_o_contest_from x) (X_o_contest_to x) (X_o_contest_spots x) (X_o_contest_memo x) (X_o_threatPlayers x) (X_o_threatRegions x) = some ox ∧ m_X6_addThreat (nI n) s0 s1 (nI cT) (Y_o_holes y) (Y_o_near y) (Y_o_threatOf y) (Y_o_threatSet y) (Y_o_hole y) (Y_o_won y) (Y_o_lasts y) (Y_o_power y) p1 p2 = some oy ∧ ox.1 = oy.1 ∧ LI oy.2.2.2.2.2.2.2.1 ∧ TI ox.2.1 ox.2.2.2.2.2.2.2.1 ox.2.2.2.2.2.2.2.2 oy.2.1 oy.2.2.2.1 oy.2.2.2.2.1 := by
    intro v4 u4 hp hne hv hu
    unfold m_X5_addThreat_c23 m_X6_addThreat m_X5_regionError
    rw [jl]
    rcases player_cases p1 with ⟨a1, a2⟩ | ⟨a1, a2, -⟩
    · rw [a1, a2, if_pos rfl, if_pos rfl, if_neg (by decide)]
      exact ⟨_, _, rfl, rfl, rfl, hL, hTI⟩
    · obtain ⟨p, hp2, rfl, rfl, rfl⟩ := hp a1
      rw [a1, a2, if_neg one_nz, if_neg one_nz, hv, hu, if_neg one_nz, if_neg one_nz, if_neg hne]
      rcases region_cases hn s0 s1 p2 (L := 8) (by decide) with ⟨d1, d2⟩ | ⟨d1, d2, hP, hc⟩
      · rw [show (if (p2 &&& ((m_X3_free s0 s1 (B_all (bdn n))) ^^^ (-1))) = 0 then (if (m_J13_bitCount_95d88 p2) ≤ 8 then (0 : Int32) else (-12)) else (-12)) = -12 from d1, show m_X6_isRegion (nI n) s0 s1 p2 8 = some 0 from d2, bs, if_pos rfl, if_neg (by decide)]
        exact ⟨_, _, rfl, rfl, rfl, hL, hTI⟩
      · rw [show (if (p2 &&& ((m_X3_free s0 s1 (B_all (bdn n))) ^^^ (-1))) = 0 then (if (m_J13_bitCount_95d88 p2) ≤ 8 then (0 : Int32) else (-12)) else (-12)) = 0 from d1, show m_X6_isRegion (nI n) s0 s1 p2 8 = some 1 from d2, bs, if_neg one_nz, if_pos (by decide)]
        have hown := own_full q1 q2 (nI p)
        have hPf := sub_trans hP (free_sub hn s0 s1)
        have hfr : m_X6_place (nI n) (-1 - 2 * nI p) = some (m_X0_cellsOf (B_upper (bdn n)) (B_lower (bdn n)) (B_left (bdn n)) (B_right (bdn n)) (-1 - 2 * nI p)) := by
          rcases place_cases hn (-1 - 2 * nI p) with ⟨z1, -⟩ | ⟨-, -, z3⟩
          · rw [hv] at z1; exact absurd z1 one_nz
          · exact z3
        have hto : m_X6_place (nI n) (-2 - 2 * nI p) = some (m_X0_cellsOf (B_upper (bdn n)) (B_lower (bdn n)) (B_left (bdn n)) (B_right (bdn n)) (-2 - 2 * nI p)) := by
          rcases place_cases hn (-2 - 2 * nI p) with ⟨z1, -⟩ | ⟨-, -, z3⟩
          · rw [hu] at z1; exact absurd z1 one_nz
          · exact z3
        obtain ⟨sp1, me1, c1⟩ := x_can hn hown (-1 - 2 * nI p) (-2 - 2 * nI p) hPf (by omega) true (X_o_contest_spots x) (X_o_contest_memo x)
        obtain ⟨h1, w1, l1, pw1, e1, L1⟩ := m_connects hn hN hp2 (g := p) hp2 hown hfr hto hPf (by omega) (Y_o_hole y) (Y_o_won y) (Y_o_lasts y) (Y_o_power y) hL
        rw [decide_eq_true rfl] at e1
        rw [show m_X5_canConnect s0 s1 (X_o_contest_spots x) (X_o_contest_memo x) (B_size (bdn n)) (B_cells (bdn n)) (B_all (bdn n)) (B_upper (bdn n)) (B_lower (bdn n)) (B_left (bdn n)) (B_right (bdn n)) (nI p) (-1 - 2 * nI p) (-2 - 2 * nI p) p2 1 = _ from c1, bs, e1, bs]
        generalize m_X0_cellsOf (B_upper (bdn n)) (B_lower (bdn n)) (B_left (bdn n)) (B_right (bdn n)) (-1 - 2 * nI p) = fr at *
        generalize m_X0_cellsOf (B_upper (bdn n)) (B_lower (bdn n)) (B_left (bdn n)) (B_right (bdn n)) (-2 - 2 * nI p) = to at *
        cases z : can n fr to (m_X3_stonesOf s0 s1 (nI p)) p2 true
        · rw [if_pos (show bi false = 0 by decide), if_pos (show bi false = 0 by decide)]
          exact ⟨_, _, rfl, rfl, rfl, L1, hTI⟩
        · rw [if_neg (show ¬ bi true = 0 by decide), if_neg (show ¬ bi true = 0 by decide)]
          by_cases w : cT = 6
          · rw [if_pos (show nI cT = 6 by rw [w]; rfl), if_neg (show ¬ nI cT < 6 by rw [w]; decide)]
            exact ⟨_, _, rfl, rfl, rfl, L1, hTI⟩
          · have ok : okI (nI cT) 6 = true := okI_nI (by omega) (by decide)
            rw [if_neg (show ¬ nI cT = 6 from fun h => w ((nI_eq (b := 6) (by omega) (by decide)).mp h)), if_pos (show nI cT < 6 from nI_lt (b := 6) (by omega) (by decide)), if_pos ok, if_pos ok, if_pos ok, if_pos ok, nI_clamp (by omega), nI_1]
            refine ⟨_, _, rfl, rfl, rfl, L1, cT + 1, by omega, rfl, rfl, fun k hk => ?_⟩
            by_cases v : k = cT
            · subst v
              exact ⟨by show upd (X_o_threatPlayers x) k (nI p) k = upd (Y_o_threatOf y) k (nI p) k; rw [upd_at, upd_at], by show vp_updL (X_o_threatRegions x) k p2 k = vp_updL (Y_o_threatSet y) k p2 k; rw [updL_at, updL_at]⟩
            · have := r4 k (by omega)
              exact ⟨by show upd (X_o_threatPlayers x) cT (nI p) k = upd (Y_o_threatOf y) cT (nI p) k; rw [upd_ne _ _ v, upd_ne _ _ v]; exact this.1, by show vp_updL (X_o_threatRegions x) cT p2 k = vp_updL (Y_o_threatSet y) cT p2 k; rw [pk_uLn v, pk_uLn v]; exact this.2⟩
  have pl : ∀ q : Int32, q = -1 ∨ q = -2 ∨ q = -3 ∨ q = -4 → m_X5_isPlace (B_cells (bdn n)) q = 1 := by
    intro q hq
    have h49 := nn_lt hn
    unfold m_X5_isPlace
    rw [bd_cells hn]
    have hq0 : q < 0 ∧ ¬ q < -4 := by rcases hq with rfl | rfl | rfl | rfl <;> decide
    rw [if_neg hq0.2, if_neg (fun w => by
      have h1 := hq0.1
      rw [Int32.le_iff_toInt_le, nI_toInt (by omega)] at w
      rw [Int32.lt_iff_toInt_lt, show (0 : Int32).toInt = 0 from rfl] at h1
      omega)]
  unfold m_X5_addThreat m_X5_addThreat_c10
  by_cases e : p1 = 0
  · rw [if_pos e, if_pos e]
    exact key (-1) (-2) (fun _ => ⟨0, by decide, e, by decide, by decide⟩) (by decide) (pl _ (by decide)) (pl _ (by decide))
  · rw [if_neg e, if_neg e]
    refine key (-3) (-4) (fun h => ?_) (by decide) (pl _ (by decide)) (pl _ (by decide))
    rcases player_cases p1 with ⟨a1, a2⟩ | ⟨a1, a2, a3⟩
    · rw [a1] at h; exact absurd h (by decide)
    · rcases a3 with z | z
      · exact absurd z e
      · exact ⟨1, by decide, z, by decide, by decide⟩

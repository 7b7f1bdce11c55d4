/-! what can be reached within a set -/
theorem okI_nI {i N : Nat} (h : i < N) (hN : N < 2 ^ 31) : okI (nI i) N = true := decide_eq_true (nI_in h hN)
theorem FU_ge {k : Nat} (h : k ≤ 20000) : k ≤ FU := h
theorem FU_s : ∃ f, FU = f + 1 ∧ 19999 ≤ f := ⟨19999, rfl, Nat.le_refl _⟩
theorem tb_lt64 {x : Int64} {k : Nat} (h : tb x k = true) : k < 64 := by
  by_cases hk : k < 64
  · exact hk
  · rw [tb_ge x (by omega)] at h; cases h
theorem sub_full {n : Nat} (hn : 2 ≤ n ∧ n ≤ 7) {x : Int64} : sub x (full n) ↔ ∀ k, tb x k = true → k < n * n := by
  constructor
  · intro h k hk
    have h1 := h k hk
    rw [tb_full hn (tb_lt64 hk)] at h1
    exact of_decide_eq_true h1
  · intro h k hk
    rw [tb_full hn (tb_lt64 hk)]
    exact decide_eq_true (h k hk)
theorem sub_bit {n : Nat} (hn : 2 ≤ n ∧ n ≤ 7) {k : Nat} (hk : k < n * n) : sub (jshl 1 (nI k)) (full n) := by
  have := nn_lt hn
  rw [sub_full hn]
  intro j hj
  rw [tb_one (by omega) (tb_lt64 hj)] at hj
  have := of_decide_eq_true hj
  omega
def nb (n k : Nat) : Int64 := ar n (jshl 1 (nI k))
theorem tb_nb {n : Nat} (hn : 2 ≤ n ∧ n ≤ 7) {k : Nat} (hk : k < n * n) (j : Nat) : tb (nb n k) j = adj n k j := by
  have h49 := nn_lt hn
  have h := ar_iff hn (sub_bit hn hk) j
  have e : (∃ i, adj n i j = true ∧ tb (jshl 1 (nI k)) i = true) ↔ adj n k j = true := by
    constructor
    · rintro ⟨i, h1, h2⟩
      rw [tb_one (by omega) (tb_lt64 h2)] at h2
      have := of_decide_eq_true h2
      rw [← this]; exact h1
    · intro h1
      exact ⟨k, h1, by rw [tb_one (by omega) (by omega)]; exact decide_eq_true rfl⟩
  rw [e] at h
  unfold nb
  cases h1 : tb (ar n (jshl 1 (nI k))) j <;> cases h2 : adj n k j <;> simp_all
def Near (n : Nat) (near : Nat → Int64) : Prop := ∀ k, k < n * n → near k = nb n k
theorem ar_sub {n : Nat} (hn : 2 ≤ n ∧ n ≤ 7) {p : Int64} (hp : sub p (full n)) : sub (ar n p) (full n) := by
  rw [sub_full hn]
  intro k hk
  obtain ⟨i, h1, -⟩ := (ar_iff hn hp k).mp hk
  exact (adj_lt h1).2
theorem around_loop {n : Nat} (hn : 2 ≤ n ∧ n ≤ 7) {near : Nat → Int64} (hN : Near n near) (p : Int64) : ∀ (d i fuel : Nat) (acc : Int64), i + d = n * n → d + 1 ≤ fuel → ∃ r, m_X6_around_c5 (nI n) near p fuel acc (nI i) = some r ∧ ∀ j, tb r j = true ↔ tb acc j = true ∨ ∃ k, i ≤ k ∧ k < n * n ∧ tb p k = true ∧ adj n k j = true := by
  have h49 := nn_lt hn
  intro d
  induction d with
  | zero =>
    intro i fuel acc hi hf
    obtain ⟨f, rfl⟩ : ∃ f, fuel = f + 1 := ⟨fuel - 1, by omega⟩
    refine ⟨acc, ?_, fun j => ⟨Or.inl, ?_⟩⟩
    · rw [m_X6_around_c5, pk_mul, if_pos (nI_le (by omega) (by omega))]
    · rintro (h | ⟨k, h1, h2, -⟩)
      · exact h
      · omega
  | succ d ih =>
    intro i fuel acc hi hf
    obtain ⟨f, rfl⟩ : ∃ f, fuel = f + 1 := ⟨fuel - 1, by omega⟩
    have hin : i < n * n := by omega
    rw [m_X6_around_c5, pk_mul, if_neg (nI_ge (a := i) (b := n * n) hin (by omega)), has_eq p (by omega)]
    by_cases hb : tb p i = true
    · rw [if_pos hb, if_neg (by decide), if_pos (okI_nI (by omega) (by omega)), m_X6_around_c40, nI_1, nI_clamp (by omega), hN i hin]
      obtain ⟨r, h1, h2⟩ := ih (i + 1) f (acc ||| nb n i) (by omega) (by omega)
      refine ⟨r, h1, fun j => ?_⟩
      rw [h2 j, tb_or, Bool.or_eq_true, tb_nb hn hin]
      constructor
      · rintro ((h | h) | ⟨k, a, b, c, d⟩)
        · exact Or.inl h
        · exact Or.inr ⟨i, Nat.le_refl i, hin, hb, h⟩
        · exact Or.inr ⟨k, by omega, b, c, d⟩
      · rintro (h | ⟨k, a, b, c, d⟩)
        · exact Or.inl (Or.inl h)
        · by_cases e : k = i
          · subst e; exact Or.inl (Or.inr d)
          · exact Or.inr ⟨k, by omega, b, c, d⟩
    · rw [if_neg hb, if_pos rfl, m_X6_around_c40, nI_1]
      obtain ⟨r, h1, h2⟩ := ih (i + 1) f (acc ||| 0) (by omega) (by omega)
      refine ⟨r, h1, fun j => ?_⟩
      rw [h2 j, tb_or, tb_zero, Bool.or_false]
      constructor
      · rintro (h | ⟨k, a, b, c, d⟩)
        · exact Or.inl h
        · exact Or.inr ⟨k, by omega, b, c, d⟩
      · rintro (h | ⟨k, a, b, c, d⟩)
        · exact Or.inl h
        · by_cases e : k = i
          · subst e; exact absurd c hb
          · exact Or.inr ⟨k, by omega, b, c, d⟩
theorem bool_ext {a b : Bool} (h : a = true ↔ b = true) : a = b := by cases a <;> cases b <;> simp_all
theorem m_around {n : Nat} (hn : 2 ≤ n ∧ n ≤ 7) {near : Nat → Int64} (hN : Near n near) {p : Int64} (hp : sub p (full n)) : m_X6_around (nI n) near p = some (ar n p) := by
  have h49 := nn_lt hn
  obtain ⟨r, h1, h2⟩ := around_loop hn hN p (n * n) 0 FU 0 (by omega) (FU_ge (by omega))
  have e : r = ar n p := by
    apply tb_ext
    intro j _
    apply bool_ext
    rw [h2 j, ar_iff hn hp j, tb_zero]
    constructor
    · rintro (h | ⟨k, -, -, c, d⟩)
      · cases h
      · exact ⟨k, d, c⟩
    · rintro ⟨k, d, c⟩
      exact Or.inr ⟨k, Nat.zero_le k, (adj_lt d).1, c, d⟩
  rw [← e]
  exact h1
/-- one step of growth -/
def stp (n : Nat) (w g : Int64) : Int64 := g ||| (ar n g &&& w)
theorem stp_inf (n : Nat) (w g : Int64) : sub g (stp n w g) := sub_or_l g _
theorem stp_sub {n : Nat} {w g : Int64} (h : sub g w) : sub (stp n w g) w := or_sub h (and_sub_r _ _)
theorem ar_zero {n : Nat} (hn : 2 ≤ n ∧ n ≤ 7) : ar n 0 = 0 := by
  apply tb_ext
  intro j _
  apply bool_ext
  rw [ar_iff hn (sub_zero _) j, tb_zero]
  constructor
  · rintro ⟨i, -, h⟩; rw [tb_zero] at h; cases h
  · intro h; cases h
theorem zero_and (x : Int64) : 0 &&& x = 0 := by apply tb_ext; intro k _; rw [tb_and, tb_zero, Bool.false_and]
theorem and_zero (x : Int64) : x &&& 0 = 0 := by apply tb_ext; intro k _; rw [tb_and, tb_zero, Bool.and_false]
theorem or_zero (x : Int64) : x ||| 0 = x := by apply tb_ext; intro k _; rw [tb_or, tb_zero, Bool.or_false]
theorem stp_zero {n : Nat} (hn : 2 ≤ n ∧ n ≤ 7) (w : Int64) : stp n w 0 = 0 := by
  unfold stp
  rw [ar_zero hn, zero_and, or_zero]
def cl (n : Nat) (s w : Int64) : Int64 := it (stp n w) 64 (s &&& w)
theorem it_stp_sub {n : Nat} {w : Int64} (m : Nat) {g : Int64} (h : sub g w) : sub (it (stp n w) m g) w := by
  induction m generalizing g with
  | zero => exact h
  | succ m ih => exact ih (stp_sub h)
theorem cl_fix (n : Nat) (s w : Int64) : stp n w (cl n s w) = cl n s w := it_sat (stp_inf n w) _ (Nat.le_refl 64)
theorem cl_sub (n : Nat) (s w : Int64) : sub (cl n s w) w := it_stp_sub 64 (and_sub_r s w)
theorem cl_seed (n : Nat) (s w : Int64) : sub (s &&& w) (cl n s w) := it_sub (stp_inf n w) 64 _
theorem it_eq_cl {n : Nat} {s w : Int64} {m : Nat} (h : stp n w (it (stp n w) m (s &&& w)) = it (stp n w) m (s &&& w)) : it (stp n w) m (s &&& w) = cl n s w := by
  unfold cl
  by_cases hm : m ≤ 64
  · obtain ⟨d, hd⟩ : ∃ d, 64 = m + d := ⟨64 - m, by omega⟩
    rw [hd, it_add, it_fix h]
  · obtain ⟨d, rfl⟩ : ∃ d, m = 64 + d := ⟨m - 64, by omega⟩
    rw [it_add, it_fix (it_sat (stp_inf n w) _ (Nat.le_refl 64))]
theorem it_sub_cl {n : Nat} {s w : Int64} (m : Nat) : sub (it (stp n w) m (s &&& w)) (cl n s w) := by
  unfold cl
  by_cases hm : m ≤ 64
  · obtain ⟨d, hd⟩ : ∃ d, 64 = m + d := ⟨64 - m, by omega⟩
    rw [hd, it_add]
    exact it_sub (stp_inf n w) d _
  · obtain ⟨d, rfl⟩ : ∃ d, m = 64 + d := ⟨m - 64, by omega⟩
    rw [it_add, it_fix (it_sat (stp_inf n w) _ (Nat.le_refl 64))]
    exact sub_refl _
/-- closed, and the least such set -/
theorem cl_closed {n : Nat} (hn : 2 ≤ n ∧ n ≤ 7) {s w : Int64} (hw : sub w (full n)) {i j : Nat} (hi : tb (cl n s w) i = true) (ha : adj n i j = true) (hj : tb w j = true) : tb (cl n s w) j = true := by
  rw [← cl_fix]
  unfold stp
  rw [tb_or, tb_and, (ar_iff hn (sub_trans (cl_sub n s w) hw) j).mpr ⟨i, ha, hi⟩, hj]
  simp
theorem it_least {n : Nat} (hn : 2 ≤ n ∧ n ≤ 7) {w : Int64} (hw : sub w (full n)) {S : Nat → Prop} (hs : ∀ i j, S i → adj n i j = true → tb w j = true → S j) (m : Nat) {g : Int64} (hg : sub g w) (h0 : ∀ k, tb g k = true → S k) : ∀ k, tb (it (stp n w) m g) k = true → S k := by
  induction m generalizing g with
  | zero => exact h0
  | succ m ih =>
    refine ih (stp_sub hg) (fun k hk => ?_)
    unfold stp at hk
    rw [tb_or, tb_and, Bool.or_eq_true, Bool.and_eq_true] at hk
    rcases hk with hk | ⟨hk, hw2⟩
    · exact h0 k hk
    · obtain ⟨i, ha, hi⟩ := (ar_iff hn (sub_trans hg hw) k).mp hk
      exact hs i k (h0 i hi) ha hw2
theorem cl_least {n : Nat} (hn : 2 ≤ n ∧ n ≤ 7) {s w : Int64} (hw : sub w (full n)) {S : Nat → Prop} (hs : ∀ i j, S i → adj n i j = true → tb w j = true → S j) (h0 : ∀ k, tb s k = true → tb w k = true → S k) : ∀ k, tb (cl n s w) k = true → S k :=
  it_least hn hw hs 64 (and_sub_r s w) (fun k hk => by rw [tb_and, Bool.and_eq_true] at hk; exact h0 k hk.1 hk.2)
theorem reach_loop {n : Nat} (hn : 2 ≤ n ∧ n ≤ 7) {near : Nat → Int64} (hN : Near n near) {w : Int64} (hw : sub w (full n)) : ∀ (d fuel : Nat) (g : Int64), sub g w → 64 ≤ pc g + d → d + 1 ≤ fuel → m_X6_reach_c8 (nI n) near w fuel (stp n w g) g = some (it (stp n w) 64 g) := by
  intro d
  induction d with
  | zero =>
    intro fuel g hg hd hf
    obtain ⟨f, rfl⟩ : ∃ f, fuel = f + 1 := ⟨fuel - 1, by omega⟩
    have e : g = stp n w g := pc_eq_of_sub (stp_inf n w g) (by have := pc_le (stp n w g); omega)
    rw [m_X6_reach_c8, if_pos e, it_fix e.symm, ← e]
  | succ d ih =>
    intro fuel g hg hd hf
    obtain ⟨f, rfl⟩ : ∃ f, fuel = f + 1 := ⟨fuel - 1, by omega⟩
    by_cases e : g = stp n w g
    · rw [m_X6_reach_c8, if_pos e, it_fix e.symm, ← e]
    · rw [m_X6_reach_c8, if_neg e, m_around hn hN (sub_trans (stp_sub hg) hw)]
      have hp := pc_strict (stp_inf n w g) e
      have := ih f (stp n w g) (stp_sub hg) (by omega) (by omega)
      show m_X6_reach_c8 (nI n) near w f (stp n w (stp n w g)) (stp n w g) = _
      rw [this]
      show some (it (stp n w) 65 g) = _
      rw [it_succ, it_sat (stp_inf n w) g (Nat.le_refl 64)]
theorem m_reach {n : Nat} (hn : 2 ≤ n ∧ n ≤ 7) {near : Nat → Int64} (hN : Near n near) {s w : Int64} (hw : sub w (full n)) : m_X6_reach (nI n) near s w = some (cl n s w) := by
  unfold m_X6_reach
  obtain ⟨f, hf, hfl⟩ := FU_s
  rw [hf, m_X6_reach_c8]
  by_cases e : 0 = (s &&& w)
  · rw [if_pos e]
    unfold cl
    rw [← e, it_fix (stp_zero hn w)]
  · rw [if_neg e, m_around hn hN (sub_trans (and_sub_r s w) hw)]
    exact reach_loop hn hN hw 64 f (s &&& w) (and_sub_r s w) (by omega) (by omega)
theorem dist_and {r a w : Int64} (h : sub r w) : (r ||| a) &&& w = r ||| (a &&& w) := by
  apply tb_ext
  intro k _
  rw [tb_and, tb_or, tb_or, tb_and]
  have := h k
  cases h1 : tb r k <;> cases h2 : tb w k <;> simp_all
abbrev m_fl (n : Nat) (w goal : Int64) := m_X0_floodUpTo_c8 (B_size (bdn n)) (B_cells (bdn n)) (B_all (bdn n)) (B_left (bdn n)) (B_right (bdn n)) w goal
theorem flood_loop {n : Nat} (hn : 2 ≤ n ∧ n ≤ 7) {s w goal : Int64} (hw : sub w (full n)) : ∀ (d i fuel : Nat), i + d = n * n → d + 1 ≤ fuel → i ≤ pc (it (stp n w) i (s &&& w)) → ∃ m, m_fl n w goal fuel (it (stp n w) i (s &&& w)) (nI i) = some (it (stp n w) m (s &&& w)) ∧ (it (stp n w) m (s &&& w) &&& goal = 0 → stp n w (it (stp n w) m (s &&& w)) = it (stp n w) m (s &&& w)) := by
  have h49 := nn_lt hn
  intro d
  induction d with
  | zero =>
    intro i fuel hi hf hp
    obtain ⟨f, rfl⟩ : ∃ f, fuel = f + 1 := ⟨fuel - 1, by omega⟩
    refine ⟨i, ?_, fun _ => ?_⟩
    · rw [m_fl, m_X0_floodUpTo_c8, bd_cells hn, if_pos (nI_le (by omega) (by omega))]
    · have h1 : sub (it (stp n w) i (s &&& w)) (full n) := sub_trans (it_stp_sub i (and_sub_r s w)) hw
      have h2 := pc_eq_of_sub h1 (by rw [pc_full hn]; omega)
      refine (sub_antisymm (stp_inf n w _) ?_).symm
      have h3 : sub (stp n w (it (stp n w) i (s &&& w))) (full n) := sub_trans (stp_sub (it_stp_sub i (and_sub_r s w))) hw
      rw [h2] at h3 ⊢
      exact h3
  | succ d ih =>
    intro i fuel hi hf hp
    obtain ⟨f, rfl⟩ : ∃ f, fuel = f + 1 := ⟨fuel - 1, by omega⟩
    have hsw := it_stp_sub (n := n) i (and_sub_r s w)
    rw [m_fl, m_X0_floodUpTo_c8, bd_cells hn, if_neg (nI_ge (a := i) (b := n * n) (by omega) (by omega))]
    by_cases hg : it (stp n w) i (s &&& w) &&& goal = 0
    · rw [if_pos hg]
      have e : ((it (stp n w) i (s &&& w) ||| m_X0_around (B_size (bdn n)) (B_all (bdn n)) (B_left (bdn n)) (B_right (bdn n)) (it (stp n w) i (s &&& w))) &&& w) = stp n w (it (stp n w) i (s &&& w)) := dist_and hsw
      rw [e]
      by_cases hx : stp n w (it (stp n w) i (s &&& w)) = it (stp n w) i (s &&& w)
      · rw [if_pos hx]
        exact ⟨i, rfl, fun _ => hx⟩
      · rw [if_neg hx, nI_1, ← it_succ (stp n w) i (s &&& w), ← bd_cells hn]
        refine ih (i + 1) f (by omega) (by omega) ?_
        rw [it_succ]
        have := pc_strict (stp_inf n w (it (stp n w) i (s &&& w))) (fun q => hx q.symm)
        omega
    · rw [if_neg hg]
      exact ⟨i, rfl, fun q => absurd q hg⟩
abbrev m_flood (n : Nat) (s w goal : Int64) := m_X0_floodUpTo (B_size (bdn n)) (B_cells (bdn n)) (B_all (bdn n)) (B_left (bdn n)) (B_right (bdn n)) s w goal
theorem flood_spec {n : Nat} (hn : 2 ≤ n ∧ n ≤ 7) {s w goal : Int64} (hw : sub w (full n)) : ∃ r, m_flood n s w goal = some r ∧ sub r (cl n s w) ∧ (r &&& goal = 0 → r = cl n s w) := by
  have h49 := nn_lt hn
  obtain ⟨m, h1, h2⟩ := flood_loop hn (s := s) (goal := goal) hw (n * n) 0 FU (by omega) (FU_ge (by omega)) (Nat.zero_le _)
  exact ⟨_, h1, it_sub_cl m, fun h => it_eq_cl (h2 h)⟩
theorem x_flood {n : Nat} (hn : 2 ≤ n ∧ n ≤ 7) {s w : Int64} (hw : sub w (full n)) : m_X0_flood (B_size (bdn n)) (B_cells (bdn n)) (B_all (bdn n)) (B_left (bdn n)) (B_right (bdn n)) s w = some (cl n s w) := by
  obtain ⟨r, h1, -, h3⟩ := flood_spec hn (s := s) (goal := 0) hw
  unfold m_X0_flood
  rw [show m_X0_floodUpTo (B_size (bdn n)) (B_cells (bdn n)) (B_all (bdn n)) (B_left (bdn n)) (B_right (bdn n)) s w 0 = some r from h1, h3 (and_zero r)]
  rfl
/-- whether a set connects two others -/
def lk (n : Nat) (own a b : Int64) : Bool := !decide (cl n a own &&& b = 0)
theorem x_linked {n : Nat} (hn : 2 ≤ n ∧ n ≤ 7) {own a b : Int64} (hw : sub own (full n)) : m_X0_linked (B_size (bdn n)) (B_cells (bdn n)) (B_all (bdn n)) (B_left (bdn n)) (B_right (bdn n)) own a b = some (if lk n own a b = true then 1 else 0) := by
  obtain ⟨r, h1, h2, h3⟩ := flood_spec hn (s := a) (goal := b) hw
  unfold m_X0_linked
  rw [show m_X0_floodUpTo (B_size (bdn n)) (B_cells (bdn n)) (B_all (bdn n)) (B_left (bdn n)) (B_right (bdn n)) a own b = some r from h1]
  show (if r &&& b = 0 then some 0 else some 1) = _
  unfold lk
  by_cases hb : r &&& b = 0
  · rw [if_pos hb]
    rw [h3 hb] at hb
    rw [hb]
    rfl
  · rw [if_neg hb]
    have : ¬ cl n a own &&& b = 0 := by
      intro q
      apply hb
      rw [and_eq_zero] at q ⊢
      exact fun k h4 h5 => q k (h2 k h4) h5
    simp [this]
theorem m_edge {n : Nat} (hn : 2 ≤ n ∧ n ≤ 7) : m_X6_edge (nI n) 0 = some (B_upper (bdn n)) ∧ m_X6_edge (nI n) 1 = some (B_lower (bdn n)) ∧ m_X6_edge (nI n) 2 = some (B_left (bdn n)) ∧ m_X6_edge (nI n) 3 = some (B_right (bdn n)) :=
  n27 (P := fun n => m_X6_edge (nI n) 0 = some (B_upper (bdn n)) ∧ m_X6_edge (nI n) 1 = some (B_lower (bdn n)) ∧ m_X6_edge (nI n) 2 = some (B_left (bdn n)) ∧ m_X6_edge (nI n) 3 = some (B_right (bdn n))) (by decide +kernel) (by decide +kernel) (by decide +kernel) (by decide +kernel) (by decide +kernel) (by decide +kernel) hn
def tbw (n : Nat) (own : Int64) : Bool := lk n own (B_upper (bdn n)) (B_lower (bdn n))
def lrw (n : Nat) (own : Int64) : Bool := lk n own (B_left (bdn n)) (B_right (bdn n))
theorem m_wins0 {n : Nat} (hn : 2 ≤ n ∧ n ≤ 7) {near : Nat → Int64} (hN : Near n near) {own : Int64} (hw : sub own (full n)) : m_X6_wins (nI n) near 0 own = some (if tbw n own = true then 1 else 0) := by
  unfold m_X6_wins
  rw [show (2 : Int32) * 0 = 0 from rfl, show (0 : Int32) + 1 = 1 from rfl, (m_edge hn).1, (m_edge hn).2.1]
  show ((m_X6_reach (nI n) near (B_upper (bdn n)) own).bind fun u2 => if u2 &&& B_lower (bdn n) = 0 then some 0 else some 1) = _
  rw [m_reach hn hN hw]
  show (if cl n (B_upper (bdn n)) own &&& B_lower (bdn n) = 0 then some 0 else some 1) = _
  unfold tbw lk
  by_cases h : cl n (B_upper (bdn n)) own &&& B_lower (bdn n) = 0 <;> simp [h]
theorem m_wins1 {n : Nat} (hn : 2 ≤ n ∧ n ≤ 7) {near : Nat → Int64} (hN : Near n near) {own : Int64} (hw : sub own (full n)) : m_X6_wins (nI n) near 1 own = some (if lrw n own = true then 1 else 0) := by
  unfold m_X6_wins
  rw [show (2 : Int32) * 1 = 2 from rfl, show (2 : Int32) + 1 = 3 from rfl, (m_edge hn).2.2.1, (m_edge hn).2.2.2]
  show ((m_X6_reach (nI n) near (B_left (bdn n)) own).bind fun u2 => if u2 &&& B_right (bdn n) = 0 then some 0 else some 1) = _
  rw [m_reach hn hN hw]
  show (if cl n (B_left (bdn n)) own &&& B_right (bdn n) = 0 then some 0 else some 1) = _
  unfold lrw lk
  by_cases h : cl n (B_left (bdn n)) own &&& B_right (bdn n) = 0 <;> simp [h]
/-- who has won -/
def vic (n : Nat) (s0 s1 : Int64) : Int32 := if tbw n s0 = true then 0 else if lrw n s1 = true then 1 else -15
theorem m_winner {n : Nat} (hn : 2 ≤ n ∧ n ≤ 7) {near : Nat → Int64} (hN : Near n near) {s0 s1 : Int64} (h0 : sub s0 (full n)) (h1 : sub s1 (full n)) : m_X6_winnerNow (nI n) s0 s1 near = some (vic n s0 s1) := by
  unfold m_X6_winnerNow vic
  rw [m_wins0 hn hN h0, m_wins1 hn hN h1]
  by_cases a : tbw n s0 = true <;> by_cases b : lrw n s1 = true <;> simp [a, b]
theorem x_victor {n : Nat} (hn : 2 ≤ n ∧ n ≤ 7) {s0 s1 : Int64} (h0 : sub s0 (full n)) (h1 : sub s1 (full n)) : m_X3_victor s0 s1 (B_size (bdn n)) (B_cells (bdn n)) (B_all (bdn n)) (B_upper (bdn n)) (B_lower (bdn n)) (B_left (bdn n)) (B_right (bdn n)) = some (vic n s0 s1) := by
  unfold m_X3_victor vic tbw lrw
  rw [x_linked hn h0, x_linked hn h1]
  by_cases a : lk n s0 (B_upper (bdn n)) (B_lower (bdn n)) = true <;> by_cases b : lk n s1 (B_left (bdn n)) (B_right (bdn n)) = true <;> simp [a, b]

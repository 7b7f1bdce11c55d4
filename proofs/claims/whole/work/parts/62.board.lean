/-! the board: its numbers, what lies beside what -/
def bdn (n : Nat) : BF := (m_X0_init (0 : Int64) (0 : Int64) (nI n)).getD (0, 0, 0, 0, 0, 0, 0)
theorem n27 {P : Nat → Prop} (h2 : P 2) (h3 : P 3) (h4 : P 4) (h5 : P 5) (h6 : P 6) (h7 : P 7) {n : Nat} (hn : 2 ≤ n ∧ n ≤ 7) : P n := by
  have : n = 2 ∨ n = 3 ∨ n = 4 ∨ n = 5 ∨ n = 6 ∨ n = 7 := by omega
  rcases this with rfl | rfl | rfl | rfl | rfl | rfl <;> assumption
theorem some_getD {α : Type} {o : Option α} {d : α} (h : o.isSome = true) : o = some (o.getD d) := by
  cases o with
  | none => cases h
  | some a => rfl
theorem bd_init {n : Nat} (hn : 2 ≤ n ∧ n ≤ 7) : m_X0_init (0 : Int64) (0 : Int64) (nI n) = some (bdn n) :=
  some_getD (n27 (P := fun n => (m_X0_init (0 : Int64) (0 : Int64) (nI n)).isSome = true) (by decide +kernel) (by decide +kernel) (by decide +kernel) (by decide +kernel) (by decide +kernel) (by decide +kernel) hn)
theorem bd_size {n : Nat} (hn : 2 ≤ n ∧ n ≤ 7) : B_size (bdn n) = nI n :=
  n27 (P := fun n => B_size (bdn n) = nI n) (by decide +kernel) (by decide +kernel) (by decide +kernel) (by decide +kernel) (by decide +kernel) (by decide +kernel) hn
theorem bd_cells {n : Nat} (hn : 2 ≤ n ∧ n ≤ 7) : B_cells (bdn n) = nI (n * n) :=
  n27 (P := fun n => B_cells (bdn n) = nI (n * n)) (by decide +kernel) (by decide +kernel) (by decide +kernel) (by decide +kernel) (by decide +kernel) (by decide +kernel) hn
abbrev full (n : Nat) : Int64 := B_all (bdn n)
theorem tb_full {n : Nat} (hn : 2 ≤ n ∧ n ≤ 7) {k : Nat} (hk : k < 64) : tb (full n) k = decide (k < n * n) :=
  n27 (P := fun n => ∀ k, k < 64 → tb (full n) k = decide (k < n * n)) (by decide +kernel) (by decide +kernel) (by decide +kernel) (by decide +kernel) (by decide +kernel) (by decide +kernel) hn k hk
theorem tb_left {n : Nat} (hn : 2 ≤ n ∧ n ≤ 7) {k : Nat} (hk : k < 64) : tb (B_left (bdn n)) k = (decide (k < n * n) && decide (k % n = 0)) :=
  n27 (P := fun n => ∀ k, k < 64 → tb (B_left (bdn n)) k = (decide (k < n * n) && decide (k % n = 0))) (by decide +kernel) (by decide +kernel) (by decide +kernel) (by decide +kernel) (by decide +kernel) (by decide +kernel) hn k hk
theorem tb_right {n : Nat} (hn : 2 ≤ n ∧ n ≤ 7) {k : Nat} (hk : k < 64) : tb (B_right (bdn n)) k = (decide (k < n * n) && decide (k % n + 1 = n)) :=
  n27 (P := fun n => ∀ k, k < 64 → tb (B_right (bdn n)) k = (decide (k < n * n) && decide (k % n + 1 = n))) (by decide +kernel) (by decide +kernel) (by decide +kernel) (by decide +kernel) (by decide +kernel) (by decide +kernel) hn k hk
theorem tb_upper {n : Nat} (hn : 2 ≤ n ∧ n ≤ 7) {k : Nat} (hk : k < 64) : tb (B_upper (bdn n)) k = decide (k < n) :=
  n27 (P := fun n => ∀ k, k < 64 → tb (B_upper (bdn n)) k = decide (k < n)) (by decide +kernel) (by decide +kernel) (by decide +kernel) (by decide +kernel) (by decide +kernel) (by decide +kernel) hn k hk
theorem tb_lower {n : Nat} (hn : 2 ≤ n ∧ n ≤ 7) {k : Nat} (hk : k < 64) : tb (B_lower (bdn n)) k = (decide (k < n * n) && decide (n * n ≤ k + n)) :=
  n27 (P := fun n => ∀ k, k < 64 → tb (B_lower (bdn n)) k = (decide (k < n * n) && decide (n * n ≤ k + n))) (by decide +kernel) (by decide +kernel) (by decide +kernel) (by decide +kernel) (by decide +kernel) (by decide +kernel) hn k hk
theorem nn_lt {n : Nat} (hn : 2 ≤ n ∧ n ≤ 7) : n * n ≤ 49 :=
  n27 (P := fun n => n * n ≤ 49) (by decide) (by decide) (by decide) (by decide) (by decide) (by decide) hn
theorem pc_full {n : Nat} (hn : 2 ≤ n ∧ n ≤ 7) : pc (full n) = n * n :=
  n27 (P := fun n => pc (full n) = n * n) (by decide +kernel) (by decide +kernel) (by decide +kernel) (by decide +kernel) (by decide +kernel) (by decide +kernel) hn
/-- i lies beside j -/
def adj (n i j : Nat) : Bool := decide (i < n * n ∧ j < n * n ∧ ((j % n ≠ 0 ∧ (i + 1 = j ∨ i + 1 = j + n)) ∨ (j % n + 1 ≠ n ∧ (i = j + 1 ∨ i + n = j + 1)) ∨ i + n = j ∨ i = j + n))
theorem adj_lt {n i j : Nat} (h : adj n i j = true) : i < n * n ∧ j < n * n := by
  have := of_decide_eq_true h
  exact ⟨this.1, this.2.1⟩
theorem adj_symm {n : Nat} (hn : 2 ≤ n ∧ n ≤ 7) (i j : Nat) : adj n i j = adj n j i := by
  have key : ∀ i, i < 49 → ∀ j, j < 49 → adj n i j = adj n j i :=
    n27 (P := fun n => ∀ i, i < 49 → ∀ j, j < 49 → adj n i j = adj n j i) (by decide +kernel) (by decide +kernel) (by decide +kernel) (by decide +kernel) (by decide +kernel) (by decide +kernel) hn
  have h49 := nn_lt hn
  by_cases hi : i < 49
  · by_cases hj : j < 49
    · exact key i hi j hj
    · have h1 : adj n i j = false := by unfold adj; exact decide_eq_false (fun h => by omega)
      have h2 : adj n j i = false := by unfold adj; exact decide_eq_false (fun h => by omega)
      rw [h1, h2]
  · have h1 : adj n i j = false := by unfold adj; exact decide_eq_false (fun h => by omega)
    have h2 : adj n j i = false := by unfold adj; exact decide_eq_false (fun h => by omega)
    rw [h1, h2]
/-- what lies beside a set -/
def ar (n : Nat) (p : Int64) : Int64 := m_X0_around (B_size (bdn n)) (B_all (bdn n)) (B_left (bdn n)) (B_right (bdn n)) p
theorem ar_iff {n : Nat} (hn : 2 ≤ n ∧ n ≤ 7) {p : Int64} (hp : sub p (full n)) (j : Nat) : tb (ar n p) j = true ↔ ∃ i, adj n i j = true ∧ tb p i = true := by
  have h49 := nn_lt hn
  by_cases hj : j < 64
  · have e1 : B_size (bdn n) - (1 : Int32) = nI (n - 1) := by
      rw [bd_size hn]
      exact pk_sub (a := n) (b := 1) (by omega)
    have q1 : (1 : Int32) = nI 1 := rfl
    have hq : ∀ i, tb p i = true → i < n * n := fun i hi => by
      have h1 := hp i hi
      by_cases h64 : i < 64
      · rw [tb_full hn h64] at h1
        exact of_decide_eq_true h1
      · rw [tb_ge p (by omega)] at hi
        cases hi
    unfold ar m_X0_around jlet
    rw [e1, bd_size hn, q1]
    simp only [tb_and, tb_or, tb_not _ hj, tb_left hn hj, tb_right hn hj, tb_full hn hj]
    rw [tb_shl p (by omega) hj, tb_shl p (s := n - 1) (by omega) hj, tb_shl p (s := n) (by omega) hj, tb_ushr p j (s := 1) (by omega), tb_ushr p j (s := n - 1) (by omega), tb_ushr p j (s := n) (by omega)]
    simp only [Bool.and_eq_true, Bool.or_eq_true, decide_eq_true_eq, Bool.not_eq_true', Bool.and_eq_false_iff, decide_eq_false_iff_not]
    constructor
    · rintro ⟨h, hjn⟩
      rcases h with ((⟨h | h, hc⟩ | ⟨h | h, hc⟩) | h) | h
      · refine ⟨j - 1, decide_eq_true ⟨by omega, hjn, Or.inl ⟨?_, Or.inl (by omega)⟩⟩, h.2⟩
        rcases hc with hc | hc
        · exact absurd hjn hc
        · exact hc
      · have := hq _ h
        refine ⟨n - 1 + j, decide_eq_true ⟨this, hjn, Or.inl ⟨?_, Or.inr (by omega)⟩⟩, h⟩
        rcases hc with hc | hc
        · exact absurd hjn hc
        · exact hc
      · have := hq _ h
        refine ⟨1 + j, decide_eq_true ⟨this, hjn, Or.inr (Or.inl ⟨?_, Or.inl (by omega)⟩)⟩, h⟩
        rcases hc with hc | hc
        · exact absurd hjn hc
        · exact hc
      · have := hq _ h.2
        refine ⟨j - (n - 1), decide_eq_true ⟨this, hjn, Or.inr (Or.inl ⟨?_, Or.inr (by omega)⟩)⟩, h.2⟩
        rcases hc with hc | hc
        · exact absurd hjn hc
        · exact hc
      · exact ⟨j - n, decide_eq_true ⟨hq _ h.2, hjn, Or.inr (Or.inr (Or.inl (by omega)))⟩, h.2⟩
      · exact ⟨n + j, decide_eq_true ⟨hq _ h, hjn, Or.inr (Or.inr (Or.inr (by omega)))⟩, h⟩
    · rintro ⟨i, ha, hi⟩
      obtain ⟨-, hjn, ha⟩ := of_decide_eq_true ha
      refine ⟨?_, hjn⟩
      rcases ha with ⟨hc, h | h⟩ | ⟨hc, h | h⟩ | h | h
      · exact Or.inl (Or.inl (Or.inl ⟨Or.inl ⟨by omega, by rw [show j - 1 = i by omega]; exact hi⟩, Or.inr hc⟩))
      · exact Or.inl (Or.inl (Or.inl ⟨Or.inr (by rw [show n - 1 + j = i by omega]; exact hi), Or.inr hc⟩))
      · exact Or.inl (Or.inl (Or.inr ⟨Or.inl (by rw [show 1 + j = i by omega]; exact hi), Or.inr hc⟩))
      · exact Or.inl (Or.inl (Or.inr ⟨Or.inr ⟨by omega, by rw [show j - (n - 1) = i by omega]; exact hi⟩, Or.inr hc⟩))
      · exact Or.inl (Or.inr ⟨by omega, by rw [show j - n = i by omega]; exact hi⟩)
      · exact Or.inr (by rw [show n + j = i by omega]; exact hi)
  · rw [tb_ge _ (by omega)]
    constructor
    · intro h; cases h
    · rintro ⟨i, ha, -⟩
      have := (adj_lt ha).2
      omega

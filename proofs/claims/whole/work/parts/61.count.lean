/-! counting bits, and sets that grow -/
theorem sub_refl (x : Int64) : sub x x := fun _ h => h
theorem sub_trans {x y z : Int64} (h1 : sub x y) (h2 : sub y z) : sub x z := fun k h => h2 k (h1 k h)
theorem sub_antisymm {x y : Int64} (h1 : sub x y) (h2 : sub y x) : x = y := by
  apply tb_ext
  intro k _
  have a := h1 k
  have b := h2 k
  cases hx : tb x k <;> cases hy : tb y k <;> simp_all
theorem sub_or_l (x y : Int64) : sub x (x ||| y) := fun k h => by rw [tb_or, h]; rfl
theorem sub_or_r (x y : Int64) : sub y (x ||| y) := fun k h => by rw [tb_or, h, Bool.or_true]
theorem or_sub {x y z : Int64} (h1 : sub x z) (h2 : sub y z) : sub (x ||| y) z := fun k h => by
  rw [tb_or, Bool.or_eq_true] at h
  exact h.elim (h1 k) (h2 k)
theorem and_sub_l (x y : Int64) : sub (x &&& y) x := fun k h => by rw [tb_and, Bool.and_eq_true] at h; exact h.1
theorem and_sub_r (x y : Int64) : sub (x &&& y) y := fun k h => by rw [tb_and, Bool.and_eq_true] at h; exact h.2
theorem sub_and {x y z : Int64} (h1 : sub x y) (h2 : sub x z) : sub x (y &&& z) := fun k h => by rw [tb_and, h1 k h, h2 k h]; rfl
theorem sub_zero (x : Int64) : sub 0 x := fun k h => by rw [tb_zero] at h; cases h
theorem and_eq_zero {x y : Int64} : x &&& y = 0 ↔ ∀ k, tb x k = true → tb y k = true → False := by
  constructor
  · intro h k h1 h2
    have : tb (x &&& y) k = true := by rw [tb_and, h1, h2]; rfl
    rw [h, tb_zero] at this
    cases this
  · intro h
    apply tb_ext
    intro k _
    rw [tb_zero, tb_and]
    cases hx : tb x k <;> cases hy : tb y k <;> simp_all
theorem eq_zero_iff {x : Int64} : x = 0 ↔ ∀ k, tb x k = false := by
  constructor
  · intro h k; rw [h, tb_zero]
  · intro h; apply tb_ext; intro k _; rw [h, tb_zero]
theorem ne_zero_iff {x : Int64} : ¬ x = 0 ↔ ∃ k, k < 64 ∧ tb x k = true := by
  constructor
  · intro h
    rcases Classical.em (∃ k, k < 64 ∧ tb x k = true) with q | q
    · exact q
    · exfalso
      apply h
      apply tb_ext
      intro k hk
      rw [tb_zero]
      cases hx : tb x k
      · rfl
      · exact absurd ⟨k, hk, hx⟩ q
  · rintro ⟨k, -, hk⟩ h
    rw [h, tb_zero] at hk
    cases hk
/-- the number of set bits below m -/
def pcb (x : Int64) : Nat → Nat
  | 0 => 0
  | m + 1 => pcb x m + (if tb x m = true then 1 else 0)
def pc (x : Int64) : Nat := pcb x 64
theorem pcb_le (x : Int64) (m : Nat) : pcb x m ≤ m := by
  induction m with
  | zero => exact Nat.le_refl 0
  | succ m ih => unfold pcb; split <;> omega
theorem pcb_mono {x y : Int64} (h : sub x y) (m : Nat) : pcb x m ≤ pcb y m := by
  induction m with
  | zero => exact Nat.le_refl 0
  | succ m ih =>
    unfold pcb
    by_cases hx : tb x m = true
    · rw [if_pos hx, if_pos (h m hx)]; omega
    · rw [if_neg hx]; split <;> omega
theorem pcb_strict {x y : Int64} (h : sub x y) {k m : Nat} (hk : k < m) (hy : tb y k = true) (hx : tb x k = false) : pcb x m < pcb y m := by
  induction m with
  | zero => omega
  | succ m ih =>
    unfold pcb
    by_cases e : k = m
    · subst e
      rw [if_pos hy, if_neg (by rw [hx]; decide)]
      have := pcb_mono h k
      omega
    · have := ih (by omega)
      by_cases hxm : tb x m = true
      · rw [if_pos hxm, if_pos (h m hxm)]; omega
      · rw [if_neg hxm]; split <;> omega
theorem pc_mono {x y : Int64} (h : sub x y) : pc x ≤ pc y := pcb_mono h 64
theorem pc_strict {x y : Int64} (h : sub x y) (hne : x ≠ y) : pc x < pc y := by
  rcases Classical.em (∃ k, k < 64 ∧ tb y k = true ∧ tb x k = false) with ⟨k, hk, h1, h2⟩ | q
  · exact pcb_strict h hk h1 h2
  · exfalso
    apply hne
    apply tb_ext
    intro k hk
    cases hx : tb x k
    · cases hy : tb y k
      · rfl
      · exact absurd ⟨k, hk, hy, hx⟩ q
    · rw [h k hx]
theorem pc_le (x : Int64) : pc x ≤ 64 := pcb_le x 64
theorem pc_eq_of_sub {x y : Int64} (h : sub x y) (hp : pc y ≤ pc x) : x = y := by
  rcases Classical.em (x = y) with e | e
  · exact e
  · have := pc_strict h e
    omega
def it (f : Int64 → Int64) : Nat → Int64 → Int64
  | 0, x => x
  | n + 1, x => it f n (f x)
theorem it_succ (f : Int64 → Int64) (n : Nat) (x : Int64) : it f (n + 1) x = f (it f n x) := by
  induction n generalizing x with
  | zero => rfl
  | succ n ih =>
    show it f (n + 1) (f x) = f (it f n (f x))
    exact ih (f x)
theorem it_add (f : Int64 → Int64) (a b : Nat) (x : Int64) : it f (a + b) x = it f b (it f a x) := by
  induction a generalizing x with
  | zero => rw [Nat.zero_add]; rfl
  | succ a ih =>
    rw [show a + 1 + b = (a + b) + 1 by omega]
    show it f (a + b) (f x) = it f b (it f a (f x))
    exact ih (f x)
theorem it_fix {f : Int64 → Int64} {x : Int64} (h : f x = x) (n : Nat) : it f n x = x := by
  induction n with
  | zero => rfl
  | succ n ih =>
    show it f n (f x) = x
    rw [h]
    exact ih
theorem it_sub {f : Int64 → Int64} (hf : ∀ x, sub x (f x)) (n : Nat) (x : Int64) : sub x (it f n x) := by
  induction n generalizing x with
  | zero => exact sub_refl x
  | succ n ih => exact sub_trans (hf x) (ih (f x))
/-- as long as it grows, it grows by one at least -/
theorem it_grow {f : Int64 → Int64} (hf : ∀ x, sub x (f x)) (n : Nat) (x : Int64) (h : f (it f n x) ≠ it f n x) : n + pc x ≤ pc (it f n x) := by
  induction n with
  | zero => rw [Nat.zero_add]; exact Nat.le_refl _
  | succ n ih =>
    rw [it_succ] at h ⊢
    have h1 : f (it f n x) ≠ it f n x := fun e => h (by rw [e, e])
    have h2 := ih h1
    have h3 := pc_strict (hf (it f n x)) (fun e => h1 e.symm)
    omega
theorem it_sat {f : Int64 → Int64} (hf : ∀ x, sub x (f x)) (x : Int64) {n : Nat} (hn : 64 ≤ n) : f (it f n x) = it f n x := by
  rcases Classical.em (f (it f n x) = it f n x) with e | e
  · exact e
  · exfalso
    have h1 := it_grow hf n x e
    have h2 := pc_strict (hf (it f n x)) (fun q => e q.symm)
    have h3 := pc_le (f (it f n x))
    omega

/-! the theorem of Hex on the board -/
def sq (n : Nat) (x : Nat × Nat) : Prop := x.1 < n ∧ x.2 < n
theorem adj_nbr {n : Nat} (hn : 2 ≤ n ∧ n ≤ 7) : ∀ a, a < n → ∀ b, b < n → ∀ c, c < n → ∀ d, d < n → adj n (a * n + b) (c * n + d) = decide ((c = a + 1 ∧ d = b) ∨ (a = c + 1 ∧ d = b) ∨ (c = a ∧ d = b + 1) ∨ (c = a ∧ b = d + 1) ∨ (c = a + 1 ∧ b = d + 1) ∨ (a = c + 1 ∧ d = b + 1)) :=
  n27 (P := fun n => ∀ a, a < n → ∀ b, b < n → ∀ c, c < n → ∀ d, d < n → adj n (a * n + b) (c * n + d) = decide ((c = a + 1 ∧ d = b) ∨ (a = c + 1 ∧ d = b) ∨ (c = a ∧ d = b + 1) ∨ (c = a ∧ b = d + 1) ∨ (c = a + 1 ∧ b = d + 1) ∨ (a = c + 1 ∧ d = b + 1))) (by decide +kernel) (by decide +kernel) (by decide +kernel) (by decide +kernel) (by decide +kernel) (by decide +kernel) hn
def Emb (n : Nat) (f : Nat × Nat → Nat) (fr to : Int64) : Prop := (∀ x, sq n x → f x < n * n) ∧ (∀ x y, sq n x → sq n y → (adj n (f x) (f y) = true ↔ nbr x y)) ∧ (∀ x, sq n x → (tb fr (f x) = true ↔ x.1 = 0)) ∧ (∀ x, sq n x → (tb to (f x) = true ↔ x.1 + 1 = n)) ∧ (∀ k, k < n * n → ∃ x, sq n x ∧ f x = k)
theorem sq_lt {n a b : Nat} (h1 : a < n) (h2 : b < n) : a * n + b < n * n := by
  have : (a + 1) * n ≤ n * n := Nat.mul_le_mul_right n h1
  rw [Nat.add_mul] at this
  omega
theorem edges_sq {n : Nat} (hn : 2 ≤ n ∧ n ≤ 7) : ∀ a, a < n → ∀ b, b < n → (tb (B_upper (bdn n)) (a * n + b) = decide (a = 0)) ∧ (tb (B_lower (bdn n)) (a * n + b) = decide (a + 1 = n)) ∧ (tb (B_left (bdn n)) (a * n + b) = decide (b = 0)) ∧ (tb (B_right (bdn n)) (a * n + b) = decide (b + 1 = n)) :=
  n27 (P := fun n => ∀ a, a < n → ∀ b, b < n → (tb (B_upper (bdn n)) (a * n + b) = decide (a = 0)) ∧ (tb (B_lower (bdn n)) (a * n + b) = decide (a + 1 = n)) ∧ (tb (B_left (bdn n)) (a * n + b) = decide (b = 0)) ∧ (tb (B_right (bdn n)) (a * n + b) = decide (b + 1 = n))) (by decide +kernel) (by decide +kernel) (by decide +kernel) (by decide +kernel) (by decide +kernel) (by decide +kernel) hn
theorem emb_up {n : Nat} (hn : 2 ≤ n ∧ n ≤ 7) : Emb n (fun x => x.1 * n + x.2) (B_upper (bdn n)) (B_lower (bdn n)) := by
  refine ⟨fun x h => sq_lt h.1 h.2, fun x y h1 h2 => ?_, fun x h => ?_, fun x h => ?_, fun k hk => ⟨(k / n, k % n), ⟨Nat.div_lt_of_lt_mul hk, Nat.mod_lt _ (by omega)⟩, ?_⟩⟩
  · show adj n (x.1 * n + x.2) (y.1 * n + y.2) = true ↔ _
    rw [adj_nbr hn x.1 h1.1 x.2 h1.2 y.1 h2.1 y.2 h2.2, decide_eq_true_eq]
    rfl
  · show tb _ (x.1 * n + x.2) = true ↔ _
    rw [(edges_sq hn x.1 h.1 x.2 h.2).1, decide_eq_true_eq]
  · show tb _ (x.1 * n + x.2) = true ↔ _
    rw [(edges_sq hn x.1 h.1 x.2 h.2).2.1, decide_eq_true_eq]
  · show k / n * n + k % n = k
    rw [Nat.mul_comm]
    exact Nat.div_add_mod k n
theorem emb_left {n : Nat} (hn : 2 ≤ n ∧ n ≤ 7) : Emb n (fun x => x.2 * n + x.1) (B_left (bdn n)) (B_right (bdn n)) := by
  refine ⟨fun x h => sq_lt h.2 h.1, fun x y h1 h2 => ?_, fun x h => ?_, fun x h => ?_, fun k hk => ⟨(k % n, k / n), ⟨Nat.mod_lt _ (by omega), Nat.div_lt_of_lt_mul hk⟩, ?_⟩⟩
  · show adj n (x.2 * n + x.1) (y.2 * n + y.1) = true ↔ _
    rw [adj_nbr hn x.2 h1.2 x.1 h1.1 y.2 h2.2 y.1 h2.1, decide_eq_true_eq]
    unfold nbr
    omega
  · show tb _ (x.2 * n + x.1) = true ↔ _
    rw [(edges_sq hn x.2 h.2 x.1 h.1).2.2.1, decide_eq_true_eq]
  · show tb _ (x.2 * n + x.1) = true ↔ _
    rw [(edges_sq hn x.2 h.2 x.1 h.1).2.2.2, decide_eq_true_eq]
  · show k / n * n + k % n = k
    rw [Nat.mul_comm]
    exact Nat.div_add_mod k n
theorem lk_iff {n : Nat} {w a b : Int64} : lk n w a b = true ↔ ∃ k, tb (cl n a w) k = true ∧ tb b k = true := by
  unfold lk
  rw [Bool.not_eq_true', decide_eq_false_iff_not, and_eq_zero]
  constructor
  · intro h
    apply Classical.byContradiction
    intro g
    exact h (fun k h1 h2 => g ⟨k, h1, h2⟩)
  · rintro ⟨k, h1, h2⟩ h
    exact h k h1 h2
theorem hexY {n : Nat} (hn : 2 ≤ n ∧ n ≤ 7) {f : Nat × Nat → Nat} {fr to W : Int64} (hE : Emb n f fr to) (hW : sub W (full n)) {c : Nat × Nat → Bool} {P : Bool} (h1 : ∀ x, sq n x → (c x = P ↔ tb W (f x) = true)) (h2 : ∀ x : Nat × Nat, n ≤ x.1 → x.2 < n → c x = P) (h3 : ∀ x : Nat × Nat, x.1 < n → n ≤ x.2 → ¬ c x = P) : Ywin (2 * n - 2 + 1) c P ↔ lk n W fr to = true := by
  obtain ⟨e1, e2, e3, e4, e5⟩ := hE
  have inn : ∀ y, own (2 * n - 2 + 1) c P y → y.2 < n := by
    intro y hy
    rcases Nat.lt_or_ge y.2 n with q | q
    · exact q
    · have := hy.1
      exact absurd hy.2 (h3 y (by omega) q)
  rw [lk_iff]
  constructor
  · rintro ⟨a, ha, ⟨x, hx, hx0⟩, -, ⟨y, hy, hyd⟩⟩
    have hox := con_ok hx ha
    have hoy := con_ok hy ha
    have hx2 := inn x hox
    have hy2 := inn y hoy
    have hxy : con (own (2 * n - 2 + 1) c P) x y := con_trans (con_symm hx ha) hy
    have hsx : sq n x := ⟨by omega, hx2⟩
    have key := hxy (fun z => (∃ k, tb (cl n fr W) k = true ∧ tb to k = true) ∨ (sq n z ∧ tb (cl n fr W) (f z) = true))
      (Or.inr ⟨hsx, cl_seed n fr W (f x) (by rw [tb_and, (e3 x hsx).mpr hx0, (h1 x hsx).mp hox.2]; rfl)⟩)
      (by
        rintro z w (hz | ⟨hz1, hz2⟩) hnb hw
        · exact Or.inl hz
        · have hw2 := inn w hw
          by_cases q : w.1 < n
          · right
            refine ⟨⟨q, hw2⟩, cl_closed hn hW hz2 ((e2 z w hz1 ⟨q, hw2⟩).mpr hnb) ((h1 w ⟨q, hw2⟩).mp hw.2)⟩
          · left
            refine ⟨f z, hz2, (e4 z hz1).mpr ?_⟩
            have := hz1.1
            unfold nbr at hnb
            omega)
    rcases key with k | ⟨k1, k2⟩
    · exact k
    · exact ⟨f y, k2, (e4 y k1).mpr (by have := k1.1; omega)⟩
  · rintro ⟨k, hk, hkt⟩
    have hreach : ∀ k, tb (cl n fr W) k = true → ∀ z, sq n z → f z = k → own (2 * n - 2 + 1) c P z ∧ ∃ x, con (own (2 * n - 2 + 1) c P) z x ∧ x.1 = 0 := by
      have osq : ∀ z, sq n z → tb W (f z) = true → own (2 * n - 2 + 1) c P z := fun z hz h => ⟨by have := hz.1; have := hz.2; omega, (h1 z hz).mpr h⟩
      refine cl_least hn hW (S := fun k => ∀ z, sq n z → f z = k → own (2 * n - 2 + 1) c P z ∧ ∃ x, con (own (2 * n - 2 + 1) c P) z x ∧ x.1 = 0) ?_ ?_
      · intro i j hi ha hj z hz hzj
        have hij := adj_lt ha
        obtain ⟨w, hw, hwi⟩ := e5 i hij.1
        obtain ⟨o1, x, c1, c2⟩ := hi w hw hwi
        have oz := osq z hz (by rw [hzj]; exact hj)
        refine ⟨oz, x, ?_, c2⟩
        have hnb : nbr w z := (e2 w z hw hz).mp (by rw [hwi, hzj]; exact ha)
        exact con_trans (con_step (con_refl _ z) (nbr_symm hnb) o1) c1
      · intro k hkf hkw z hz hzk
        have oz := osq z hz (by rw [hzk]; exact hkw)
        exact ⟨oz, z, con_refl _ z, (e3 z hz).mp (by rw [hzk]; exact hkf)⟩
    have hkn : k < n * n := by
      have := hW k (cl_sub n fr W k hk)
      rw [tb_full hn (tb_lt64 hk)] at this
      exact of_decide_eq_true this
    obtain ⟨z, hz, hzk⟩ := e5 k hkn
    obtain ⟨oz, x, c1, c2⟩ := hreach k hk z hz hzk
    have hz1 : z.1 + 1 = n := (e4 z hz).mp (by rw [hzk]; exact hkt)
    have hz2 := hz.2
    have oA : ∀ b, b + 2 ≤ n → own (2 * n - 2 + 1) c P (n, b) := fun b hb => ⟨by show n + b < _; omega, h2 (n, b) (Nat.le_refl n) (by show b < n; omega)⟩
    have rowA : ∀ b, b + 2 ≤ n → con (own (2 * n - 2 + 1) c P) (n, 0) (n, b) := by
      intro b
      induction b with
      | zero => intro _; exact con_refl _ _
      | succ b ih =>
        intro hb
        exact con_step (ih (by omega)) (by unfold nbr; simp) (oA (b + 1) hb)
    have hzA : con (own (2 * n - 2 + 1) c P) z (n, 0) := by
      by_cases q : z.2 + 2 ≤ n
      · have s1 : con (own (2 * n - 2 + 1) c P) z (n, z.2) := con_step (con_refl _ z) (by unfold nbr; simp; omega) (oA z.2 q)
        exact con_trans s1 (con_symm (rowA z.2 q) (oA 0 (by omega)))
      · have s1 : con (own (2 * n - 2 + 1) c P) z (n, n - 2) := con_step (con_refl _ z) (by unfold nbr; simp; omega) (oA (n - 2) (by omega))
        exact con_trans s1 (con_symm (rowA (n - 2) (by omega)) (oA 0 (by omega)))
    exact ⟨z, oz, ⟨x, c1, c2⟩, ⟨(n, 0), hzA, rfl⟩, ⟨(n, n - 2), con_trans hzA (rowA (n - 2) (by omega)), by show n + (n - 2) + 1 = _; omega⟩⟩
def swp (x : Nat × Nat) : Nat × Nat := (x.2, x.1)
theorem con_swp {N : Nat} {c : Nat × Nat → Bool} {P : Bool} {a b : Nat × Nat} (h : con (own N c P) a b) : con (own N (fun x => c (swp x)) P) (swp a) (swp b) := by
  intro S ha hs
  refine h (fun z => S (swp z)) ha (fun x y hx hnb hy => hs (swp x) (swp y) hx ?_ ?_)
  · unfold nbr swp at *
    simp only at *
    omega
  · exact ⟨by have := hy.1; show y.2 + y.1 < N; omega, hy.2⟩
theorem Y_swp {N : Nat} {c : Nat × Nat → Bool} {P : Bool} (h : Ywin N c P) : Ywin N (fun x => c (swp x)) P := by
  obtain ⟨a, ha, ⟨x, x1, x2⟩, ⟨y, y1, y2⟩, ⟨z, z1, z2⟩⟩ := h
  refine ⟨swp a, ⟨by have := ha.1; show a.2 + a.1 < N; omega, ha.2⟩, ⟨swp y, con_swp y1, y2⟩, ⟨swp x, con_swp x1, x2⟩, ⟨swp z, con_swp z1, by show z.2 + z.1 + 1 = N; omega⟩⟩
def hc (n : Nat) (T : Int64) (x : Nat × Nat) : Bool := if x.1 < n then (if x.2 < n then tb T (x.1 * n + x.2) else false) else true
/-- exactly one of the players is linked on a full board -/
theorem hex {n : Nat} (hn : 2 ≤ n ∧ n ≤ 7) {T : Int64} (hT : sub T (full n)) : lrw n (full n &&& (T ^^^ (-1))) = !tbw n T := by
  have h49 := nn_lt hn
  have a := hexY hn (emb_up hn) hT (c := hc n T) (P := true) (fun x hx => by unfold hc; rw [if_pos hx.1, if_pos hx.2]) (fun x h _ => by unfold hc; rw [if_neg (by omega)]) (fun x h1 h2 => by unfold hc; rw [if_pos h1, if_neg (by omega)]; decide)
  have hU : sub (full n &&& (T ^^^ (-1))) (full n) := and_sub_l _ _
  have b := hexY hn (emb_left hn) hU (c := fun x => hc n T (swp x)) (P := false) (fun x hx => by
    show (if x.2 < n then (if x.1 < n then tb T (x.2 * n + x.1) else false) else true) = false ↔ tb _ (x.2 * n + x.1) = true
    have := sq_lt hx.2 hx.1
    rw [if_pos hx.2, if_pos hx.1, tb_and, tb_not _ (by omega), tb_full hn (by omega)]
    simp [this]) (fun x h h' => by
    show (if x.2 < n then (if x.1 < n then tb T (x.2 * n + x.1) else false) else true) = false
    rw [if_pos h', if_neg (by omega)]) (fun x h1 h2 => by
    show ¬ (if x.2 < n then (if x.1 < n then tb T (x.2 * n + x.1) else false) else true) = false
    rw [if_neg (by omega)]; decide)
  have s : Ywin (2 * n - 2 + 1) (hc n T) false ↔ Ywin (2 * n - 2 + 1) (fun x => hc n T (swp x)) false := ⟨Y_swp, fun h => Y_swp h⟩
  have x := Y_xor (2 * n - 2) (hc n T)
  unfold lrw tbw
  cases h1 : lk n T (B_upper (bdn n)) (B_lower (bdn n)) with
  | true =>
    cases h2 : lk n (full n &&& (T ^^^ (-1))) (B_left (bdn n)) (B_right (bdn n)) with
    | false => rfl
    | true => exact absurd (s.mpr (b.mpr h2)) (x.mp (a.mpr h1))
  | false =>
    cases h2 : lk n (full n &&& (T ^^^ (-1))) (B_left (bdn n)) (B_right (bdn n)) with
    | true => rfl
    | false =>
      exfalso
      have n1 : ¬ Ywin (2 * n - 2 + 1) (hc n T) true := fun h => by rw [a.mp h] at h1; cases h1
      have n2 : ¬ Ywin (2 * n - 2 + 1) (hc n T) false := fun h => by rw [b.mp (s.mp h)] at h2; cases h2
      exact n1 (x.mpr n2)

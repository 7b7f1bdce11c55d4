/-! positions as numbers in base three -/
def dg (c i : Nat) : Nat := c / 3 ^ i % 3
def nzn : Nat → Nat → Nat
  | 0, _ => 0
  | k + 1, c => (if c % 3 = 0 then 0 else 1) + nzn k (c / 3)
def dep3 (k : Nat) : List Nat → Nat → Int64
  | [], _ => 0
  | h :: t, c => (if c % 3 = k then jshl 1 (nI h) else 0) ||| dep3 k t (c / 3)
theorem dg_zero (c : Nat) : dg c 0 = c % 3 := by unfold dg; rw [Nat.pow_zero, Nat.div_one]
theorem dg_succ (c i : Nat) : dg c (i + 1) = dg (c / 3) i := by
  unfold dg; rw [Nat.pow_succ, Nat.mul_comm, Nat.div_div_eq_div_mul]
theorem dg_lt (c i : Nat) : dg c i < 3 := Nat.mod_lt _ (by decide)
theorem dep3_sub (k : Nat) : ∀ {lo : Nat} {l : List Nat}, Asc lo l → ∀ c, sub (dep3 k l c) (setof l)
  | _, [], _, c => sub_zero _
  | lo, h :: t, ⟨h1, h2, h3⟩, c => by
    show sub ((if c % 3 = k then jshl 1 (nI h) else 0) ||| dep3 k t (c / 3)) (jshl 1 (nI h) ||| setof t)
    refine or_sub ?_ (sub_trans (dep3_sub k h3 (c / 3)) (sub_or_r _ _))
    split
    · exact sub_or_l _ _
    · exact sub_zero _
theorem tb_dep3 (k : Nat) : ∀ {lo : Nat} {l : List Nat}, Asc lo l → ∀ (c i x : Nat), l[i]? = some x → tb (dep3 k l c) x = decide (dg c i = k)
  | _, [], _, c, i, x, h => by simp at h
  | lo, h :: t, ⟨h1, h2, h3⟩, c, i, x, hx => by
    show tb ((if c % 3 = k then jshl 1 (nI h) else 0) ||| dep3 k t (c / 3)) x = _
    cases i with
    | zero =>
      rw [List.getElem?_cons_zero] at hx
      have e : h = x := Option.some.inj hx
      subst e
      have hn : tb (dep3 k t (c / 3)) h = false := by
        cases q : tb (dep3 k t (c / 3)) h
        · rfl
        · have := (Asc_ge h3 h ((tb_setof h3 h).mp (dep3_sub k h3 (c / 3) h q))).1
          omega
      rw [tb_or, hn, Bool.or_false, dg_zero]
      by_cases q : c % 3 = k
      · rw [if_pos q, tb_one h2 h2]; simp [q]
      · rw [if_neg q, tb_zero]; simp [q]
    | succ i =>
      rw [List.getElem?_cons_succ] at hx
      have hxt := Asc_ge h3 x (List.mem_of_getElem? hx)
      rw [tb_or, tb_dep3 k h3 (c / 3) i x hx, dg_succ]
      have : tb (if c % 3 = k then jshl 1 (nI h) else 0) x = false := by
        split
        · rw [tb_one h2 hxt.2]; exact decide_eq_false (by omega)
        · exact tb_zero x
      rw [this, Bool.false_or]
theorem getElem_ex {l : List Nat} {x : Nat} (h : x ∈ l) : ∃ i, i < l.length ∧ l[i]? = some x := by
  obtain ⟨i, hi, e⟩ := List.mem_iff_getElem.mp h
  exact ⟨i, hi, by rw [List.getElem?_eq_getElem hi, e]⟩
/-- two sets within the cells are equal when they are at each cell -/
theorem set_ext {lo : Nat} {l : List Nat} (hA : Asc lo l) {a b : Int64} (ha : sub a (setof l)) (hb : sub b (setof l)) (h : ∀ (i x : Nat), l[i]? = some x → tb a x = tb b x) : a = b := by
  apply tb_ext
  intro k _
  by_cases q : tb (setof l) k = true
  · obtain ⟨i, -, hi⟩ := getElem_ex ((tb_setof hA k).mp q)
    exact h i k hi
  · have h1 : tb a k = false := by
      cases z : tb a k
      · rfl
      · exact absurd (ha k z) q
    have h2 : tb b k = false := by
      cases z : tb b k
      · rfl
      · exact absurd (hb k z) q
    rw [h1, h2]
theorem dg_add {c i k : Nat} (h0 : dg c i = 0) (hk : k < 3) : ∀ j, dg (c + k * 3 ^ i) j = if j = i then k else dg c j := by
  induction i generalizing c with
  | zero =>
    intro j
    rw [dg_zero] at h0
    rw [Nat.pow_zero, Nat.mul_one]
    cases j with
    | zero => rw [if_pos rfl, dg_zero]; omega
    | succ j =>
      rw [if_neg (by omega), dg_succ, dg_succ]
      rw [show (c + k) / 3 = c / 3 by omega]
  | succ i ih =>
    intro j
    rw [dg_succ] at h0
    have e1 : (c + k * 3 ^ (i + 1)) % 3 = c % 3 := by rw [Nat.pow_succ, ← Nat.mul_assoc]; omega
    have e2 : (c + k * 3 ^ (i + 1)) / 3 = c / 3 + k * 3 ^ i := by rw [Nat.pow_succ, ← Nat.mul_assoc]; omega
    cases j with
    | zero => rw [if_neg (by omega), dg_zero, dg_zero, e1]
    | succ j =>
      rw [dg_succ, e2, ih h0 j, dg_succ]
      by_cases q : j = i
      · rw [if_pos q, if_pos (by omega)]
      · rw [if_neg q, if_neg (by omega)]
theorem nzn_add {i k : Nat} (hk : 0 < k ∧ k < 3) : ∀ {m c : Nat}, i < m → dg c i = 0 → nzn m (c + k * 3 ^ i) = nzn m c + 1 := by
  induction i with
  | zero =>
    intro m c hm h0
    obtain ⟨m', rfl⟩ : ∃ z, m = z + 1 := ⟨m - 1, by omega⟩
    rw [dg_zero] at h0
    unfold nzn
    rw [Nat.pow_zero, Nat.mul_one, if_neg (by omega), if_pos h0, show (c + k) / 3 = c / 3 by omega]
    omega
  | succ i ih =>
    intro m c hm h0
    obtain ⟨m', rfl⟩ : ∃ z, m = z + 1 := ⟨m - 1, by omega⟩
    rw [dg_succ] at h0
    unfold nzn
    have e1 : (c + k * 3 ^ (i + 1)) % 3 = c % 3 := by rw [Nat.pow_succ, ← Nat.mul_assoc]; omega
    have e2 : (c + k * 3 ^ (i + 1)) / 3 = c / 3 + k * 3 ^ i := by rw [Nat.pow_succ, ← Nat.mul_assoc]; omega
    rw [e1, e2, ih (by omega) h0]
    omega
theorem code_lt {i k : Nat} (hk : k < 3) : ∀ {m c : Nat}, i < m → dg c i = 0 → c < 3 ^ m → c + k * 3 ^ i < 3 ^ m := by
  induction i with
  | zero =>
    intro m c hm h0 hc
    obtain ⟨m', rfl⟩ : ∃ z, m = z + 1 := ⟨m - 1, by omega⟩
    rw [dg_zero] at h0
    rw [Nat.pow_succ] at hc ⊢
    rw [Nat.pow_zero, Nat.mul_one]
    omega
  | succ i ih =>
    intro m c hm h0 hc
    obtain ⟨m', rfl⟩ : ∃ z, m = z + 1 := ⟨m - 1, by omega⟩
    rw [dg_succ] at h0
    rw [Nat.pow_succ] at hc
    have := ih (m := m') (c := c / 3) (by omega) h0 (by omega)
    rw [Nat.pow_succ, Nat.pow_succ, ← Nat.mul_assoc]
    omega
theorem nzn_le : ∀ (m c : Nat), nzn m c ≤ m
  | 0, _ => Nat.le_refl 0
  | m + 1, c => by
    have := nzn_le m (c / 3)
    unfold nzn
    split <;> omega
theorem nzn_z : ∀ m, nzn m 0 = 0
  | 0 => rfl
  | m + 1 => by
    unfold nzn
    rw [if_pos (by decide), show 0 / 3 = 0 from rfl, nzn_z m]
theorem nzn_ext : ∀ (m j c : Nat), c < 3 ^ m → nzn (m + j) c = nzn m c
  | 0, j, c, h => by
    have e : c = 0 := by rw [Nat.pow_zero] at h; omega
    rw [e, nzn_z, nzn_z]
  | m + 1, j, c, h => by
    rw [Nat.pow_succ] at h
    rw [show m + 1 + j = (m + j) + 1 by omega]
    unfold nzn
    rw [nzn_ext m j (c / 3) (by omega)]
/-- somewhere a digit is zero as long as not all are laid -/
theorem nzn_zero : ∀ (m c : Nat), nzn m c < m → ∃ i, i < m ∧ dg c i = 0
  | 0, c, h => by omega
  | m + 1, c, h => by
    unfold nzn at h
    by_cases q : c % 3 = 0
    · exact ⟨0, by omega, by rw [dg_zero]; exact q⟩
    · rw [if_neg q] at h
      obtain ⟨i, h1, h2⟩ := nzn_zero m (c / 3) (by omega)
      exact ⟨i + 1, by omega, by rw [dg_succ]; exact h2⟩
theorem nzn_full : ∀ (m c : Nat), nzn m c = m → ∀ i, i < m → dg c i ≠ 0
  | 0, c, h, i, hi => by omega
  | m + 1, c, h, i, hi => by
    unfold nzn at h
    have hm := nzn_le m (c / 3)
    by_cases q : c % 3 = 0
    · rw [if_pos q] at h; omega
    · rw [if_neg q] at h
      cases i with
      | zero => rw [dg_zero]; exact q
      | succ i => rw [dg_succ]; exact nzn_full m (c / 3) (by omega) i (by omega)
/-- a move -/
theorem dep3_move {lo : Nat} {l : List Nat} (hA : Asc lo l) {c i x k : Nat} (hx : l[i]? = some x) (h0 : dg c i = 0) (hk : k = 1 ∨ k = 2) (j : Nat) : dep3 j l (c + k * 3 ^ i) = if j = 0 then dep3 0 l c &&& (jshl 1 (nI x) ^^^ (-1)) else if j = k then dep3 j l c ||| jshl 1 (nI x) else dep3 j l c := by
  have hmem := List.mem_of_getElem? hx
  have hx64 := (Asc_ge hA x hmem).2
  have hbit : sub (jshl 1 (nI x)) (setof l) := fun z hz => by
    rw [tb_one hx64 (tb_lt64 hz)] at hz
    rw [of_decide_eq_true hz]
    exact (tb_setof hA x).mpr hmem
  have hinj : ∀ (a y : Nat), l[a]? = some y → (a = i ↔ y = x) := by
    intro a y hy
    constructor
    · intro e; subst e; rw [hx] at hy; exact (Option.some.inj hy).symm
    · intro e
      subst e
      have key : ∀ (l : List Nat) (lo : Nat), Asc lo l → ∀ (a b c : Nat), l[a]? = some c → l[b]? = some c → a = b := by
        intro l
        induction l with
        | nil => intro lo _ a b c h1 _; simp at h1
        | cons z t ih =>
          intro lo hA a b c h1 h2
          obtain ⟨a1, a2, a3⟩ := hA
          have hmm : ∀ k, t[k]? = some c → z < c := fun k hk => by
            have := (Asc_ge a3 c (List.mem_of_getElem? hk)).1
            omega
          cases a with
          | zero =>
            cases b with
            | zero => rfl
            | succ b =>
              rw [List.getElem?_cons_succ] at h2
              have := hmm b h2
              rw [List.getElem?_cons_zero] at h1
              have : z = c := Option.some.inj h1
              omega
          | succ a =>
            cases b with
            | zero =>
              rw [List.getElem?_cons_succ] at h1
              have := hmm a h1
              rw [List.getElem?_cons_zero] at h2
              have : z = c := Option.some.inj h2
              omega
            | succ b =>
              rw [List.getElem?_cons_succ] at h1 h2
              rw [ih _ a3 a b c h1 h2]
      exact key l lo hA a i y hy hx
  refine set_ext hA (dep3_sub j hA _) ?_ (fun a y hy => ?_)
  · split
    · exact sub_trans (and_sub_l _ _) (dep3_sub 0 hA c)
    · split
      · exact or_sub (dep3_sub j hA c) hbit
      · exact dep3_sub j hA c
  · have hy64 := (Asc_ge hA y (List.mem_of_getElem? hy)).2
    rw [tb_dep3 j hA _ a y hy, dg_add h0 (by omega)]
    have hai := hinj a y hy
    by_cases q : a = i
    · have e := hai.mp q
      subst e
      subst q
      rw [if_pos rfl]
      by_cases j0 : j = 0
      · rw [if_pos j0, tb_and, tb_not _ hy64, tb_one hy64 hy64]
        rcases hk with rfl | rfl <;> simp [j0]
      · rw [if_neg j0]
        by_cases jk : j = k
        · rw [if_pos jk, tb_or, tb_one hy64 hy64]; simp [jk]
        · rw [if_neg jk, tb_dep3 j hA _ a y hy, h0]
          have : ¬ k = j := fun e => jk e.symm
          have : ¬ 0 = j := fun e => j0 e.symm
          simp_all
    · have hyx : ¬ y = x := fun e => q (hai.mpr e)
      rw [if_neg q]
      by_cases j0 : j = 0
      · rw [if_pos j0, tb_and, tb_not _ hy64, tb_one hx64 hy64, tb_dep3 0 hA _ a y hy]; simp [hyx, j0]
      · rw [if_neg j0]
        by_cases jk : j = k
        · rw [if_pos jk, tb_or, tb_one hx64 hy64, tb_dep3 j hA _ a y hy]; simp [hyx]
        · rw [if_neg jk, tb_dep3 j hA _ a y hy]
theorem dep3_root {lo : Nat} {l : List Nat} (hA : Asc lo l) : dep3 0 l 0 = setof l ∧ ∀ k, k ≠ 0 → dep3 k l 0 = 0 := by
  have hz : ∀ i, dg 0 i = 0 := fun i => by unfold dg; rw [Nat.zero_div]
  constructor
  · refine set_ext hA (dep3_sub 0 hA 0) (sub_refl _) (fun i x hx => ?_)
    rw [tb_dep3 0 hA 0 i x hx, hz, (tb_setof hA x).mpr (List.mem_of_getElem? hx)]
    rfl
  · intro k hk
    refine set_ext hA (dep3_sub k hA 0) (sub_zero _) (fun i x hx => ?_)
    rw [tb_dep3 k hA 0 i x hx, hz, tb_zero]
    exact decide_eq_false (fun e => hk e.symm)
theorem dep3_pc {lo : Nat} {l : List Nat} (hA : Asc lo l) (c : Nat) : dep3 0 l c = 0 ↔ nzn l.length c = l.length := by
  constructor
  · intro h
    rcases Nat.lt_or_ge (nzn l.length c) l.length with q | q
    · exfalso
      obtain ⟨i, h1, h2⟩ := nzn_zero _ _ q
      have hx : l[i]? = some l[i] := List.getElem?_eq_getElem h1
      have := tb_dep3 0 hA c i _ hx
      rw [h, tb_zero, h2] at this
      simp at this
    · have := nzn_le l.length c
      omega
  · intro h
    refine set_ext hA (dep3_sub 0 hA c) (sub_zero _) (fun i x hx => ?_)
    rw [tb_dep3 0 hA c i x hx, tb_zero]
    exact decide_eq_false (nzn_full _ _ h i (List.getElem?_eq_some_iff.mp hx).1)

/-! sets as rows of cells -/
def Asc : Nat → List Nat → Prop
  | _, [] => True
  | lo, h :: t => lo ≤ h ∧ h < 64 ∧ Asc (h + 1) t
def setof : List Nat → Int64
  | [] => 0
  | h :: t => jshl 1 (nI h) ||| setof t
def dep : List Nat → Nat → Int64
  | [], _ => 0
  | h :: t, f => (if f % 2 = 1 then jshl 1 (nI h) else 0) ||| dep t (f / 2)
theorem Asc_mono {lo lo' : Nat} (h : lo' ≤ lo) : ∀ {l : List Nat}, Asc lo l → Asc lo' l
  | [], _ => trivial
  | _ :: _, ⟨a, b, c⟩ => ⟨Nat.le_trans h a, b, c⟩
theorem tb_setof : ∀ {lo : Nat} {l : List Nat}, Asc lo l → ∀ k, tb (setof l) k = true ↔ k ∈ l
  | _, [], _, k => by
    show tb 0 k = true ↔ _
    rw [tb_zero]; simp
  | lo, h :: t, ⟨h1, h2, h3⟩, k => by
    show tb (jshl 1 (nI h) ||| setof t) k = true ↔ _
    rw [tb_or, Bool.or_eq_true, tb_setof h3 k, List.mem_cons]
    by_cases hk : k < 64
    · rw [tb_one h2 hk, decide_eq_true_eq]
    · rw [tb_ge _ (by omega)]
      constructor
      · rintro (q | q)
        · cases q
        · exact Or.inr q
      · rintro (q | q)
        · omega
        · exact Or.inr q
theorem Asc_ge : ∀ {lo : Nat} {l : List Nat}, Asc lo l → ∀ k, k ∈ l → lo ≤ k ∧ k < 64
  | _, [], _, k, h => by cases h
  | lo, h :: t, ⟨h1, h2, h3⟩, k, hk => by
    rcases List.mem_cons.mp hk with q | q
    · subst q; exact ⟨h1, h2⟩
    · have := Asc_ge h3 k q
      exact ⟨by omega, this.2⟩
theorem dep_sub : ∀ {lo : Nat} {l : List Nat}, Asc lo l → ∀ f, sub (dep l f) (setof l)
  | _, [], _, f => sub_zero _
  | lo, h :: t, ⟨h1, h2, h3⟩, f => by
    show sub ((if f % 2 = 1 then jshl 1 (nI h) else 0) ||| dep t (f / 2)) (jshl 1 (nI h) ||| setof t)
    refine or_sub ?_ (sub_trans (dep_sub h3 (f / 2)) (sub_or_r _ _))
    split
    · exact sub_or_l _ _
    · exact sub_zero _
theorem dep_zero : ∀ l : List Nat, dep l 0 = 0
  | [] => rfl
  | h :: t => by
    show (if 0 % 2 = 1 then jshl 1 (nI h) else 0) ||| dep t (0 / 2) = 0
    rw [if_neg (by decide), show 0 / 2 = 0 from rfl, dep_zero t]
    rfl
/-- the subset that comes next -/
def Nx (P s r : Int64) : Prop := (P &&& (s ^^^ (-1)) = 0 ∧ r = 0) ∨ ∃ l, low (P &&& (s ^^^ (-1))) l ∧ ∀ k, k < 64 → tb r k = (decide (k = l) || (decide (l < k) && tb s k))
theorem i64_sub_split {s P : Int64} (h : sub s P) : s - P = -(P &&& (s ^^^ (-1))) := by
  have e : P = (P &&& (s ^^^ (-1))) + s := by
    rw [i64_or_add]
    · apply tb_ext
      intro k hk
      rw [tb_or, tb_and, tb_not _ hk]
      have := h k
      cases h1 : tb s k <;> cases h2 : tb P k <;> simp_all
    · rw [and_eq_zero]
      intro k h1 h2
      rw [tb_and, tb_not _ (tb_lt64 h2), h2] at h1
      simp at h1
  generalize P &&& (s ^^^ (-1)) = y at e
  rw [e]
  apply Int64.toBitVec_inj.mp
  rw [Int64.toBitVec_sub, Int64.toBitVec_add, Int64.toBitVec_neg]
  apply BitVec.eq_of_toInt_eq
  rw [BitVec.toInt_sub, BitVec.toInt_add, BitVec.toInt_neg]
  simp
  rw [show s.toInt - (y.toInt + s.toInt) = - y.toInt by omega]
theorem x_next {s P : Int64} (h : sub s P) : Nx P s (m_X5_nextSubset s P) := by
  unfold m_X5_nextSubset
  rw [i64_sub_split h]
  by_cases z : P &&& (s ^^^ (-1)) = 0
  · left
    refine ⟨z, ?_⟩
    rw [z]
    exact zero_and P
  · right
    obtain ⟨l, hl⟩ := low_ex z
    refine ⟨l, hl, fun k hk => ?_⟩
    rw [tb_and, tb_neg hl hk, tb_pred hl hk, tb_and, tb_not _ hk]
    have hPl : tb P l = true := by
      have := hl.2.1
      rw [tb_and, Bool.and_eq_true] at this
      exact this.1
    have hs := h k
    by_cases a : k < l
    · have h1 : ¬ k = l := by omega
      have h2 : ¬ l < k := by omega
      simp [a, h1, h2]
    · by_cases b : k = l
      · subst b; simp [hPl]
      · have c : l < k := by omega
        cases h1 : tb s k <;> cases h2 : tb P k <;> simp_all
theorem Nx_uniq {P s r r' : Int64} (h1 : Nx P s r) (h2 : Nx P s r') : r = r' := by
  rcases h1 with ⟨a, b⟩ | ⟨l, hl, hr⟩
  · rcases h2 with ⟨-, d⟩ | ⟨l, hl, -⟩
    · rw [b, d]
    · rw [a] at hl
      have := hl.2.1
      rw [tb_zero] at this; cases this
  · rcases h2 with ⟨c, -⟩ | ⟨l', hl', hr'⟩
    · rw [c] at hl
      have := hl.2.1
      rw [tb_zero] at this; cases this
    · have e := low_uniq hl hl'
      subst e
      apply tb_ext
      intro k hk
      rw [hr k hk, hr' k hk]
theorem dep_next : ∀ {lo : Nat} {l : List Nat}, Asc lo l → ∀ f, Nx (setof l) (dep l f) (dep l (f + 1))
  | _, [], _, f => Or.inl ⟨zero_and _, rfl⟩
  | lo, h :: t, ⟨h1, h2, h3⟩, f => by
    have hsub := dep_sub h3
    have htl : ∀ k, tb (setof t) k = true → h < k := fun k hk => by
      have := (Asc_ge h3 k ((tb_setof h3 k).mp hk)).1
      omega
    have ed : ∀ g, dep (h :: t) g = (if g % 2 = 1 then jshl 1 (nI h) else 0) ||| dep t (g / 2) := fun g => rfl
    have es : setof (h :: t) = jshl 1 (nI h) ||| setof t := rfl
    by_cases hf : f % 2 = 1
    · have e1 : (f + 1) % 2 = 0 := by omega
      have e2 : (f + 1) / 2 = f / 2 + 1 := by omega
      have ih := dep_next h3 (f / 2)
      have hP : (setof (h :: t)) &&& (dep (h :: t) f ^^^ (-1)) = setof t &&& (dep t (f / 2) ^^^ (-1)) := by
        apply tb_ext
        intro k hk
        rw [es, ed, if_pos hf, tb_and, tb_and, tb_not _ hk, tb_not _ hk, tb_or, tb_or, tb_one h2 hk]
        by_cases q : k = h
        · subst q
          have : tb (setof t) k = false := by
            cases z : tb (setof t) k
            · rfl
            · have := htl k z; omega
          simp [this]
        · simp [q]
      have hr : dep (h :: t) (f + 1) = dep t (f / 2 + 1) := by
        rw [ed, if_neg (by omega), e2]
        apply tb_ext
        intro k _
        rw [tb_or, tb_zero, Bool.false_or]
      rcases ih with ⟨a, b⟩ | ⟨l, hl, hb⟩
      · left
        exact ⟨by rw [hP, a], by rw [hr, b]⟩
      · right
        refine ⟨l, by rw [hP]; exact hl, fun k hk => ?_⟩
        rw [hr, hb k hk, ed, if_pos hf, tb_or, tb_one h2 hk]
        have hhl : h < l := by
          apply htl
          have := hl.2.1
          rw [tb_and, Bool.and_eq_true] at this
          exact this.1
        by_cases q : k = h
        · subst q
          have : ¬ l < k := by omega
          simp [this]
        · simp [q]
    · have e1 : (f + 1) % 2 = 1 := by omega
      have e2 : (f + 1) / 2 = f / 2 := by omega
      have e0 : dep (h :: t) f = dep t (f / 2) := by
        rw [ed, if_neg hf]
        apply tb_ext
        intro k _
        rw [tb_or, tb_zero, Bool.false_or]
      right
      refine ⟨h, ⟨h2, ?_, fun k hk => ?_⟩, fun k hk => ?_⟩
      · rw [tb_and, es, tb_or, tb_one h2 h2, e0, tb_not _ h2]
        have : tb (dep t (f / 2)) h = false := by
          cases z : tb (dep t (f / 2)) h
          · rfl
          · have := htl h (hsub _ h z); omega
        simp [this]
      · rw [tb_and, es, tb_or, tb_one h2 (by omega)]
        have : tb (setof t) k = false := by
          cases z : tb (setof t) k
          · rfl
          · have := htl k z; omega
        have q : ¬ k = h := by omega
        simp [this, q]
      · rw [ed, if_pos e1, e2, e0, tb_or, tb_one h2 hk]
        by_cases q : k = h
        · simp [q]
        · by_cases z : h < k
          · simp [q, z]
          · have : tb (dep t (f / 2)) k = false := by
              cases w : tb (dep t (f / 2)) k
              · rfl
              · have := htl k (hsub _ k w); omega
            simp [q, this]
theorem x_next_dep {lo : Nat} {l : List Nat} (h : Asc lo l) (f : Nat) : m_X5_nextSubset (dep l f) (setof l) = dep l (f + 1) := Nx_uniq (x_next (dep_sub h f)) (dep_next h f)
/-! the cells of a set, in their order -/
def hl (P : Int64) : Nat → Nat → List Nat
  | _, 0 => []
  | lo, d + 1 => if tb P lo = true then lo :: hl P (lo + 1) d else hl P (lo + 1) d
theorem hl_z (P : Int64) (lo : Nat) : hl P lo 0 = [] := rfl
theorem hl_s (P : Int64) (lo d : Nat) : hl P lo (d + 1) = if tb P lo = true then lo :: hl P (lo + 1) d else hl P (lo + 1) d := rfl
theorem hl_asc (P : Int64) : ∀ (d lo : Nat), Asc lo (hl P lo d)
  | 0, _ => trivial
  | d + 1, lo => by
    unfold hl
    by_cases h : tb P lo = true
    · rw [if_pos h]
      exact ⟨Nat.le_refl lo, tb_lt64 h, hl_asc P d (lo + 1)⟩
    · rw [if_neg h]
      exact Asc_mono (by omega) (hl_asc P d (lo + 1))
theorem hl_len (P : Int64) : ∀ (d lo : Nat), (hl P lo d).length + pcb P lo = pcb P (lo + d)
  | 0, lo => by show 0 + pcb P lo = _; rw [Nat.zero_add]; rfl
  | d + 1, lo => by
    have h1 := hl_len P d (lo + 1)
    have h2 : pcb P (lo + 1) = pcb P lo + (if tb P lo = true then 1 else 0) := rfl
    rw [show lo + 1 + d = lo + (d + 1) by omega] at h1
    unfold hl
    by_cases h : tb P lo = true
    · rw [if_pos h] at h2 ⊢
      rw [List.length_cons]
      omega
    · rw [if_neg h] at h2 ⊢
      omega
theorem hl_mem (P : Int64) : ∀ (d lo k : Nat), k ∈ hl P lo d ↔ tb P k = true ∧ lo ≤ k ∧ k < lo + d
  | 0, lo, k => by
    constructor
    · intro h; cases h
    · rintro ⟨-, h1, h2⟩; omega
  | d + 1, lo, k => by
    have ih := hl_mem P d (lo + 1) k
    unfold hl
    by_cases h : tb P lo = true
    · rw [if_pos h, List.mem_cons, ih]
      constructor
      · rintro (q | ⟨q1, q2, q3⟩)
        · subst q; exact ⟨h, by omega, by omega⟩
        · exact ⟨q1, by omega, by omega⟩
      · rintro ⟨q1, q2, q3⟩
        by_cases z : k = lo
        · exact Or.inl z
        · exact Or.inr ⟨q1, by omega, by omega⟩
    · rw [if_neg h, ih]
      constructor
      · rintro ⟨q1, q2, q3⟩
        exact ⟨q1, by omega, by omega⟩
      · rintro ⟨q1, q2, q3⟩
        by_cases z : k = lo
        · subst z; exact absurd q1 h
        · exact ⟨q1, by omega, by omega⟩
theorem pcb_top {x : Int64} {m : Nat} (h : ∀ k, tb x k = true → k < m) : ∀ j, pcb x (m + j) = pcb x m
  | 0 => rfl
  | j + 1 => by
    show pcb x (m + j) + (if tb x (m + j) = true then 1 else 0) = _
    rw [if_neg (fun q => by have := h _ q; omega), pcb_top h j, Nat.add_zero]
abbrev HL (n : Nat) (P : Int64) : List Nat := hl P 0 (n * n)
theorem HL_len {n : Nat} (hn : 2 ≤ n ∧ n ≤ 7) {P : Int64} (hP : sub P (full n)) : (HL n P).length = pc P := by
  have h1 := hl_len P (n * n) 0
  have h2 := pcb_top (x := P) (m := n * n) (fun k hk => (sub_full hn).mp hP k hk) (64 - n * n)
  have h49 := nn_lt hn
  rw [show n * n + (64 - n * n) = 64 by omega] at h2
  have h3 : pcb P 0 = 0 := rfl
  rw [show 0 + n * n = n * n from Nat.zero_add _] at h1
  show (hl P 0 (n * n)).length = pcb P 64
  omega
theorem HL_set {n : Nat} (hn : 2 ≤ n ∧ n ≤ 7) {P : Int64} (hP : sub P (full n)) : setof (HL n P) = P := by
  apply tb_ext
  intro k _
  apply bool_ext
  rw [tb_setof (hl_asc P (n * n) 0), hl_mem]
  constructor
  · exact fun h => h.1
  · intro h
    have := (sub_full hn).mp hP k h
    exact ⟨h, by omega, by omega⟩
theorem find_holes {n : Nat} (hn : 2 ≤ n ∧ n ≤ 7) (P : Int64) : ∀ (d k fuel : Nat) (l : List Nat) (f : Nat → Int32), k + d = n * n → d + 1 ≤ fuel → l.length ≤ k → Sto l f → ∃ f', m_X6_findHoles_c7 (nI n) P fuel (nI k) (nI l.length) f = some (nI (l ++ hl P k d).length, f') ∧ Sto (l ++ hl P k d) f' := by
  have h49 := nn_lt hn
  intro d
  induction d with
  | zero =>
    intro k fuel l f hk hf hl hS
    obtain ⟨fu, rfl⟩ : ∃ f, fuel = f + 1 := ⟨fuel - 1, by omega⟩
    refine ⟨f, ?_, by rw [hl_z, List.append_nil]; exact hS⟩
    rw [m_X6_findHoles_c7, pk_mul, if_pos (nI_le (by omega) (by omega)), hl_z, List.append_nil]
  | succ d ih =>
    intro k fuel l f hk hf hl hS
    obtain ⟨fu, rfl⟩ : ∃ f, fuel = f + 1 := ⟨fuel - 1, by omega⟩
    rw [m_X6_findHoles_c7, pk_mul, if_neg (nI_ge (a := k) (b := n * n) (by omega) (by omega)), has_eq _ (by omega)]
    unfold m_X6_findHoles_c48
    rw [nI_1, hl_s]
    by_cases h : tb P k = true
    · rw [if_pos h, if_neg one_nz, if_pos (okI_nI (by omega) (by decide)), if_pos h, nI_clamp (by omega), nI_1]
      have := ih (k + 1) fu (l ++ [k]) (upd f l.length (nI k)) (by omega) (by omega) (by rw [List.length_append, List.length_singleton]; omega) (Sto_add hS k)
      rw [List.append_assoc, show (l ++ [k]).length = l.length + 1 by rw [List.length_append]; rfl] at this
      exact this
    · rw [if_neg h, if_pos rfl, if_neg h]
      exact ih (k + 1) fu l f (by omega) (by omega) (by omega) hS
theorem m_findHoles {n : Nat} (hn : 2 ≤ n ∧ n ≤ 7) {P : Int64} (hP : sub P (full n)) (f : Nat → Int32) : ∃ f', m_X6_findHoles (nI n) f P = some (nI (pc P), f') ∧ Sto (HL n P) f' := by
  have h49 := nn_lt hn
  obtain ⟨f', e, hS⟩ := find_holes hn P (n * n) 0 FU [] f (by omega) (FU_ge (by omega)) (Nat.le_refl 0) (fun i x h => by simp at h)
  refine ⟨f', ?_, hS⟩
  rw [← HL_len hn hP]
  exact e

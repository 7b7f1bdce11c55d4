/-! threats -/
theorem bs {α β : Type} (a : α) (f : α → Option β) : (some a).bind f = f a := rfl
def vt (c : Nat) (xp : Nat → Int32) (xr : Nat → Int64) (p : Int32) (o : Int64) (k : Nat) : Bool := decide (k < c) && (decide (xp k = p) && decide (xr k &&& o = 0))
def cnv (v : Nat → Bool) : Nat → Nat → Nat
  | 0, _ => 0
  | d + 1, i => (if v i = true then 1 else 0) + cnv v d (i + 1)
theorem cnv_out {v : Nat → Bool} {c : Nat} (h : ∀ k, c ≤ k → v k = false) : ∀ d i, c ≤ i → cnv v d i = 0 := by
  intro d
  induction d with
  | zero => intro i _; rfl
  | succ d ih =>
    intro i hi
    unfold cnv
    rw [h i hi, ih (i + 1) (by omega)]
    rfl
theorem cnv_add {v : Nat → Bool} : ∀ a i b, cnv v (a + b) i = cnv v a i + cnv v b (i + a) := by
  intro a
  induction a with
  | zero => intro i b; rw [Nat.zero_add]; show _ = 0 + _; rw [Nat.zero_add]; rfl
  | succ a ih =>
    intro i b
    rw [show a + 1 + b = (a + b) + 1 by omega]
    show (if v i = true then 1 else 0) + cnv v (a + b) (i + 1) = ((if v i = true then 1 else 0) + cnv v a (i + 1)) + cnv v b (i + (a + 1))
    rw [ih, show i + 1 + a = i + (a + 1) by omega]
    omega
theorem x_valid {c : Nat} (hc : c ≤ 6) {xp : Nat → Int32} {xr : Nat → Int64} {s0 s1 : Int64} {p : Int32} {i : Nat} (hi : i < 6) : m_X5_isValidThreat (nI c) xp xr s0 s1 (nI i) p = some (if vt c xp xr p (m_X3_stonesOf s0 s1 (1 - p)) i = true then 1 else 0) := by
  unfold m_X5_isValidThreat vt
  rw [if_neg (nI_pos (by omega)), if_neg (show ¬ (6 : Int32) ≤ nI i from nI_ge (a := i) (b := 6) hi (by decide)), if_pos (okI_nI hi (by decide)), if_pos (okI_nI hi (by decide)), nI_clamp (by omega)]
  by_cases h : i < c
  · rw [if_neg (nI_ge h (by omega))]
    by_cases h1 : xp i = p <;> by_cases h2 : xr i &&& m_X3_stonesOf s0 s1 (1 - p) = 0 <;> simp [h, h1, h2]
  · rw [if_pos (nI_le (by omega) (by omega))]
    simp [h]
theorem m_valid {c : Nat} (hc : c ≤ 6) {xp yp : Nat → Int32} {xr yr : Nat → Int64} (he : ∀ k, k < c → xp k = yp k ∧ xr k = yr k) {s0 s1 : Int64} {p : Int32} {i : Nat} (hi : i < c) : m_X6_isThreat s0 s1 yp yr (nI i) p = some (if vt c xp xr p (m_X3_stonesOf s0 s1 (1 - p)) i = true then 1 else 0) := by
  unfold m_X6_isThreat vt
  rw [if_pos (okI_nI (by omega) (by decide)), if_pos (okI_nI (by omega) (by decide)), nI_clamp (by omega), own_eq, ← (he i hi).1, ← (he i hi).2]
  by_cases h1 : xp i = p <;> by_cases h2 : xr i &&& m_X3_stonesOf s0 s1 (1 - p) = 0 <;> simp [hi, h1, h2]
theorem x_thr_loop {c : Nat} (hc : c ≤ 6) {xp : Nat → Int32} {xr : Nat → Int64} {s0 s1 : Int64} {p : Int32} : ∀ (d i a fuel : Nat), i + d = 6 → d + 1 ≤ fuel → m_X5_threats_c14 (nI c) xp xr s0 s1 p fuel (nI a) (nI i) = some (nI (a + cnv (vt c xp xr p (m_X3_stonesOf s0 s1 (1 - p))) d i)) := by
  intro d
  induction d with
  | zero =>
    intro i a fuel hi hf
    obtain ⟨fu, rfl⟩ : ∃ f, fuel = f + 1 := ⟨fuel - 1, by omega⟩
    rw [m_X5_threats_c14, if_pos (show (6 : Int32) ≤ nI i from nI_le (a := 6) (b := i) (by omega) (by omega))]
    rfl
  | succ d ih =>
    intro i a fuel hi hf
    obtain ⟨fu, rfl⟩ : ∃ f, fuel = f + 1 := ⟨fuel - 1, by omega⟩
    rw [m_X5_threats_c14, if_neg (show ¬ (6 : Int32) ≤ nI i from nI_ge (a := i) (b := 6) (by omega) (by decide)), x_valid hc (by omega)]
    unfold cnv
    by_cases h : vt c xp xr p (m_X3_stonesOf s0 s1 (1 - p)) i = true
    · rw [if_pos h, if_pos h]
      show m_X5_threats_c14 (nI c) xp xr s0 s1 p fu (nI a + 1) (nI i + 1) = _
      rw [nI_1, nI_1, ih (i + 1) (a + 1) fu (by omega) (by omega)]
      rw [Nat.add_assoc]
    · rw [if_neg h, if_neg h]
      show m_X5_threats_c14 (nI c) xp xr s0 s1 p fu (nI a) (nI i + 1) = _
      rw [nI_1, ih (i + 1) a fu (by omega) (by omega), Nat.zero_add]
theorem m_thr_loop {c : Nat} (hc : c ≤ 6) {xp yp : Nat → Int32} {xr yr : Nat → Int64} (he : ∀ k, k < c → xp k = yp k ∧ xr k = yr k) {s0 s1 : Int64} {p : Int32} : ∀ (d i a fuel : Nat), i + d = c → d + 1 ≤ fuel → m_X6_threatsOf_c4 s0 s1 (nI c) yp yr p fuel (nI a) (nI i) = some (nI (a + cnv (vt c xp xr p (m_X3_stonesOf s0 s1 (1 - p))) d i)) := by
  intro d
  induction d with
  | zero =>
    intro i a fuel hi hf
    obtain ⟨fu, rfl⟩ : ∃ f, fuel = f + 1 := ⟨fuel - 1, by omega⟩
    rw [m_X6_threatsOf_c4, if_pos (nI_le (by omega) (by omega))]
    rfl
  | succ d ih =>
    intro i a fuel hi hf
    obtain ⟨fu, rfl⟩ : ∃ f, fuel = f + 1 := ⟨fuel - 1, by omega⟩
    rw [m_X6_threatsOf_c4, if_neg (nI_ge (a := i) (b := c) (by omega) (by omega)), m_valid hc he (by omega)]
    unfold cnv
    by_cases h : vt c xp xr p (m_X3_stonesOf s0 s1 (1 - p)) i = true
    · rw [if_pos h, if_pos h]
      show m_X6_threatsOf_c4 s0 s1 (nI c) yp yr p fu (nI a + 1) (nI i + 1) = _
      rw [nI_1, nI_1, ih (i + 1) (a + 1) fu (by omega) (by omega)]
      rw [Nat.add_assoc]
    · rw [if_neg h, if_neg h]
      show m_X6_threatsOf_c4 s0 s1 (nI c) yp yr p fu (nI a + 0) (nI i + 1) = _
      rw [nI_1, show nI a + 0 = nI a from by rw [← nI_0, nI_add]; rfl, ih (i + 1) a fu (by omega) (by omega), Nat.zero_add]
theorem vt_out {c : Nat} {xp : Nat → Int32} {xr : Nat → Int64} {p : Int32} {o : Int64} : ∀ k, c ≤ k → vt c xp xr p o k = false := fun k hk => by
  unfold vt
  have : ¬ k < c := by omega
  simp [this]
theorem x_threats {c : Nat} (hc : c ≤ 6) {xp : Nat → Int32} {xr : Nat → Int64} {s0 s1 : Int64} {p : Int32} : m_X5_threats_c14 (nI c) xp xr s0 s1 p FU 0 0 = some (nI (cnv (vt c xp xr p (m_X3_stonesOf s0 s1 (1 - p))) c 0)) := by
  have h := x_thr_loop hc (xp := xp) (xr := xr) (s0 := s0) (s1 := s1) (p := p) 6 0 0 FU (by omega) (FU_ge (by omega))
  obtain ⟨d, hd⟩ : ∃ d, 6 = c + d := ⟨6 - c, by omega⟩
  have e : cnv (vt c xp xr p (m_X3_stonesOf s0 s1 (1 - p))) 6 0 = cnv (vt c xp xr p (m_X3_stonesOf s0 s1 (1 - p))) c 0 := by
    conv => lhs; rw [hd]
    rw [cnv_add, cnv_out vt_out d (0 + c) (by omega)]
    rfl
  rw [e, Nat.zero_add] at h
  exact h
theorem m_threats {c : Nat} (hc : c ≤ 6) {xp yp : Nat → Int32} {xr yr : Nat → Int64} (he : ∀ k, k < c → xp k = yp k ∧ xr k = yr k) {s0 s1 : Int64} {p : Int32} : m_X6_threatsOf s0 s1 (nI c) yp yr p = some (nI (cnv (vt c xp xr p (m_X3_stonesOf s0 s1 (1 - p))) c 0)) := by
  have h := m_thr_loop hc he (s0 := s0) (s1 := s1) (p := p) c 0 0 FU (by omega) (FU_ge (by omega))
  rw [Nat.zero_add] at h
  exact h
theorem s_threats : S_threats InvR := by
  rintro x b y t0 t1 ⟨n, m, K, hn, rfl, ⟨g1, g2, g3, g4, g5, g6, g7, g8, g9, g10, g11, g12⟩, hN, ⟨c, hc, e1, e2, he⟩, -⟩ p1
  unfold m_X5_threats m_X6_threats
  rw [g9, g10, g11, g12, e1, e2]
  rcases player_cases p1 with ⟨a, b⟩ | ⟨a, b, -⟩ <;> rw [a, b]
  · exact ⟨_, _, rfl, rfl, rfl⟩
  · rw [if_neg one_nz, if_neg one_nz, x_threats hc, m_threats hc he]
    exact ⟨_, _, rfl, rfl, rfl⟩
/-- what is in all of them -/
def fvt (v : Nat → Bool) (xr : Nat → Int64) : Nat → Nat → Int64 → Int64
  | 0, _, s => s
  | d + 1, i, s => fvt v xr d (i + 1) (if v i = true then s &&& xr i else s)
theorem fvt_out {v : Nat → Bool} {xr : Nat → Int64} {c : Nat} (h : ∀ k, c ≤ k → v k = false) : ∀ d i s, c ≤ i → fvt v xr d i s = s := by
  intro d
  induction d with
  | zero => intro i s _; rfl
  | succ d ih =>
    intro i s hi
    unfold fvt
    rw [h i hi, ih (i + 1) _ (by omega)]
    rfl
theorem fvt_add {v : Nat → Bool} {xr : Nat → Int64} : ∀ a i b s, fvt v xr (a + b) i s = fvt v xr b (i + a) (fvt v xr a i s) := by
  intro a
  induction a with
  | zero => intro i b s; rw [Nat.zero_add]; rfl
  | succ a ih =>
    intro i b s
    rw [show a + 1 + b = (a + b) + 1 by omega]
    show fvt v xr (a + b) (i + 1) (if v i = true then s &&& xr i else s) = fvt v xr b (i + (a + 1)) (fvt v xr a (i + 1) (if v i = true then s &&& xr i else s))
    rw [ih, show i + 1 + a = i + (a + 1) by omega]
theorem x_need_loop {c : Nat} (hc : c ≤ 6) {xp : Nat → Int32} {xr : Nat → Int64} {s0 s1 : Int64} {p : Int32} : ∀ (d i fuel : Nat) (any : Int32) (s : Int64), i + d = 6 → d + 1 ≤ fuel → (any = 0 ∨ any = 1) → m_X5_needed_c24 (nI c) s0 s1 xp xr p fuel any s (nI i) = some (if any = 0 ∧ cnv (vt c xp xr p (m_X3_stonesOf s0 s1 (1 - p))) d i = 0 then -15 else fvt (vt c xp xr p (m_X3_stonesOf s0 s1 (1 - p))) xr d i s) := by
  intro d
  induction d with
  | zero =>
    intro i fuel any s hi hf ha
    obtain ⟨fu, rfl⟩ : ∃ f, fuel = f + 1 := ⟨fuel - 1, by omega⟩
    rw [m_X5_needed_c24, if_pos (show (6 : Int32) ≤ nI i from nI_le (a := 6) (b := i) (by omega) (by omega))]
    rcases ha with rfl | rfl <;> simp [cnv, fvt]
  | succ d ih =>
    intro i fuel any s hi hf ha
    obtain ⟨fu, rfl⟩ : ∃ f, fuel = f + 1 := ⟨fuel - 1, by omega⟩
    rw [m_X5_needed_c24, if_neg (show ¬ (6 : Int32) ≤ nI i from nI_ge (a := i) (b := 6) (by omega) (by decide)), x_valid hc (by omega)]
    unfold cnv fvt
    by_cases h : vt c xp xr p (m_X3_stonesOf s0 s1 (1 - p)) i = true
    · rw [if_pos h, if_pos h, if_pos h]
      rw [bs, if_neg one_nz, m_X5_needed_c53, if_pos (okI_nI (by omega) (by decide)), nI_clamp (by omega), nI_1, ih (i + 1) fu 1 _ (by omega) (by omega) (Or.inr rfl)]
      have q1 : ¬ ((1 : Int32) = 0 ∧ cnv (vt c xp xr p (m_X3_stonesOf s0 s1 (1 - p))) d (i + 1) = 0) := fun q => one_nz q.1
      have q2 : ¬ (any = 0 ∧ 1 + cnv (vt c xp xr p (m_X3_stonesOf s0 s1 (1 - p))) d (i + 1) = 0) := fun q => by omega
      rw [if_neg q1, if_neg q2]
    · rw [if_neg h, if_neg h, if_neg h]
      show m_X5_needed_c24 (nI c) s0 s1 xp xr p fu any s (nI i + 1) = _
      rw [nI_1, ih (i + 1) fu any s (by omega) (by omega) ha, Nat.zero_add]
theorem ones_and (x : Int64) : x &&& (-1) = x := by apply tb_ext; intro k hk; rw [tb_and, tb_ones hk, Bool.and_true]
theorem m_need_loop {c : Nat} (hc : c ≤ 6) {xp yp : Nat → Int32} {xr yr : Nat → Int64} (he : ∀ k, k < c → xp k = yp k ∧ xr k = yr k) {s0 s1 : Int64} {p : Int32} : ∀ (d i fuel : Nat) (s : Int64), i + d = c → d + 1 ≤ fuel → m_X6_neededOf_c8 s0 s1 (nI c) yp yr p fuel s (nI i) = some (if cnv (vt c xp xr p (m_X3_stonesOf s0 s1 (1 - p))) c 0 = 0 then -15 else fvt (vt c xp xr p (m_X3_stonesOf s0 s1 (1 - p))) xr d i s) := by
  intro d
  induction d with
  | zero =>
    intro i fuel s hi hf
    obtain ⟨fu, rfl⟩ : ∃ f, fuel = f + 1 := ⟨fuel - 1, by omega⟩
    rw [m_X6_neededOf_c8, if_pos (nI_le (by omega) (by omega)), m_threats hc he]
    have hle : cnv (vt c xp xr p (m_X3_stonesOf s0 s1 (1 - p))) c 0 < 2 ^ 31 := by
      have : ∀ d i, cnv (vt c xp xr p (m_X3_stonesOf s0 s1 (1 - p))) d i ≤ d := by
        intro d
        induction d with
        | zero => intro i; exact Nat.le_refl 0
        | succ d ih => intro i; unfold cnv; have := ih (i + 1); split <;> omega
      have := this c 0
      omega
    show (if nI _ = 0 then some (-15) else some s) = _
    by_cases h : cnv (vt c xp xr p (m_X3_stonesOf s0 s1 (1 - p))) c 0 = 0
    · rw [h, if_pos nI_0, if_pos rfl]
    · rw [if_neg (nI_ne0 (by omega) hle), if_neg h]
      rfl
  | succ d ih =>
    intro i fuel s hi hf
    obtain ⟨fu, rfl⟩ : ∃ f, fuel = f + 1 := ⟨fuel - 1, by omega⟩
    rw [m_X6_neededOf_c8, if_neg (nI_ge (a := i) (b := c) (by omega) (by omega)), m_valid hc he (by omega)]
    conv => rhs; unfold fvt
    by_cases h : vt c xp xr p (m_X3_stonesOf s0 s1 (1 - p)) i = true
    · rw [if_pos h]
      rw [bs, if_neg one_nz, m_X6_neededOf_c41, if_pos (okI_nI (by omega) (by decide)), nI_clamp (by omega), nI_1, ← (he i (by omega)).2, ih (i + 1) fu _ (by omega) (by omega), if_pos h]
    · rw [if_neg h]
      show m_X6_neededOf_c8 s0 s1 (nI c) yp yr p fu (s &&& (-1)) (nI i + 1) = _
      rw [ones_and, nI_1, ih (i + 1) fu s (by omega) (by omega), if_neg h]
theorem x_needed {c : Nat} (hc : c ≤ 6) {xp : Nat → Int32} {xr : Nat → Int64} {s0 s1 : Int64} {p : Int32} (s : Int64) : m_X5_needed_c24 (nI c) s0 s1 xp xr p FU 0 s 0 = some (if cnv (vt c xp xr p (m_X3_stonesOf s0 s1 (1 - p))) c 0 = 0 then -15 else fvt (vt c xp xr p (m_X3_stonesOf s0 s1 (1 - p))) xr c 0 s) := by
  have h := x_need_loop hc (xp := xp) (xr := xr) (s0 := s0) (s1 := s1) (p := p) 6 0 FU 0 s (by omega) (FU_ge (by omega)) (Or.inl rfl)
  obtain ⟨d, hd⟩ : ∃ d, 6 = c + d := ⟨6 - c, by omega⟩
  have e : cnv (vt c xp xr p (m_X3_stonesOf s0 s1 (1 - p))) 6 0 = cnv (vt c xp xr p (m_X3_stonesOf s0 s1 (1 - p))) c 0 := by
    conv => lhs; rw [hd]
    rw [cnv_add, cnv_out vt_out d (0 + c) (by omega)]
    rfl
  have e2 : fvt (vt c xp xr p (m_X3_stonesOf s0 s1 (1 - p))) xr 6 0 s = fvt (vt c xp xr p (m_X3_stonesOf s0 s1 (1 - p))) xr c 0 s := by
    conv => lhs; rw [hd]
    rw [fvt_add, fvt_out vt_out d (0 + c) _ (by omega)]
  rw [e, e2, nI_0] at h
  simpa using h
theorem s_needed : S_needed InvR := by
  rintro x b y t0 t1 ⟨n, m, K, hn, rfl, ⟨g1, g2, g3, g4, g5, g6, g7, g8, g9, g10, g11, g12⟩, hN, ⟨c, hc, e1, e2, he⟩, -⟩ p1
  unfold m_X5_needed m_X6_needed m_X6_neededOf
  rw [g1, g9, g10, g11, g12, e1, e2, free_eq hn]
  rcases player_cases p1 with ⟨a, b⟩ | ⟨a, b, -⟩ <;> rw [a, b]
  · exact ⟨_, _, rfl, rfl, rfl⟩
  · have := m_need_loop hc he (s0 := (st n (X_o_game_list x) m).1) (s1 := (st n (X_o_game_list x) m).2) (p := p1) c 0 FU (m_X3_free (st n (X_o_game_list x) m).1 (st n (X_o_game_list x) m).2 (full n)) (by omega) (FU_ge (by omega))
    rw [if_neg one_nz, if_neg one_nz, x_needed hc, show m_X6_neededOf_c8 _ _ _ _ _ _ FU _ 0 = _ from this]
    exact ⟨_, _, rfl, rfl, rfl⟩

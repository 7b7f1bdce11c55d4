/-! the reference's table of what lies beside a cell -/
def jn (n : Nat) (v : Int64) (r c : Int32) : Int64 := if m_X6_in r 0 (nI n - 1) = 0 then v else if m_X6_in c 0 (nI n - 1) = 0 then v else v ||| jshl 1 (r * nI n + c)
theorem updL_same (f : Nat → Int64) (k : Nat) : vp_updL f k (f k) = f := by funext j; unfold vp_updL; split <;> simp_all
theorem updL_updL (f : Nat → Int64) (k : Nat) (a b : Int64) : vp_updL (vp_updL f k a) k b = vp_updL f k b := by funext j; unfold vp_updL; split <;> rfl
theorem updL_at (f : Nat → Int64) (k : Nat) (a : Int64) : vp_updL f k a k = a := by unfold vp_updL; rw [if_pos rfl]
theorem joins_eq {n k : Nat} (hk : k < 49) (f : Nat → Int64) (v : Int64) (r c : Int32) : m_X6_joins (nI n) (vp_updL f k v) (nI k) r c = some (vp_updL f k (jn n v r c)) := by
  unfold m_X6_joins jn
  have e : (nI k).toNatClampNeg = k := nI_clamp (by omega)
  by_cases h1 : m_X6_in r 0 (nI n - 1) = 0
  · rw [if_pos h1, if_pos h1]
  · by_cases h2 : m_X6_in c 0 (nI n - 1) = 0
    · rw [if_neg h1, if_neg h1, if_pos h2, if_pos h2]
    · rw [if_neg h1, if_neg h1, if_neg h2, if_neg h2, if_pos (okI_nI hk (by omega)), if_pos (okI_nI hk (by omega)), e, updL_at, updL_updL]
def v6 (n k : Nat) : Int64 := jn n (jn n (jn n (jn n (jn n (jn n 0 (nI k / nI n) (jirem (nI k) (nI n) - 1)) (nI k / nI n) (jirem (nI k) (nI n) + 1)) (nI k / nI n - 1) (jirem (nI k) (nI n))) (nI k / nI n + 1) (jirem (nI k) (nI n))) (nI k / nI n - 1) (jirem (nI k) (nI n) + 1)) (nI k / nI n + 1) (jirem (nI k) (nI n) - 1)
theorem v6_nb {n : Nat} (hn : 2 ≤ n ∧ n ≤ 7) {k : Nat} (hk : k < n * n) : v6 n k = nb n k := by
  have h49 := nn_lt hn
  have key : ∀ k, k < 49 → k < n * n → v6 n k = nb n k :=
    n27 (P := fun n => ∀ k, k < 49 → k < n * n → v6 n k = nb n k) (by decide +kernel) (by decide +kernel) (by decide +kernel) (by decide +kernel) (by decide +kernel) (by decide +kernel) hn
  exact key k (by omega) hk
theorem nI_nz {n : Nat} (hn : 2 ≤ n ∧ n ≤ 7) : ¬ nI n = 0 := nI_ne0 (by omega) (by omega)
theorem shapes_loop {n : Nat} (hn : 2 ≤ n ∧ n ≤ 7) : ∀ (d i fuel : Nat) (f : Nat → Int64), i + d = n * n → d + 1 ≤ fuel → (∀ k, k < i → f k = nb n k) → ∃ g, m_X6_shapes_c2 (nI n) fuel (nI i) f = some g ∧ Near n g := by
  have h49 := nn_lt hn
  intro d
  induction d with
  | zero =>
    intro i fuel f hi hf h0
    obtain ⟨fu, rfl⟩ : ∃ f, fuel = f + 1 := ⟨fuel - 1, by omega⟩
    refine ⟨f, ?_, fun k hk => h0 k (by omega)⟩
    rw [m_X6_shapes_c2, pk_mul, if_pos (nI_le (by omega) (by omega))]
  | succ d ih =>
    intro i fuel f hi hf h0
    obtain ⟨fu, rfl⟩ : ∃ f, fuel = f + 1 := ⟨fuel - 1, by omega⟩
    rw [m_X6_shapes_c2, pk_mul, if_neg (nI_ge (a := i) (b := n * n) (by omega) (by omega)), if_neg (nI_nz hn), if_neg (nI_nz hn), if_pos (okI_nI (by omega) (by omega)), nI_clamp (by omega)]
    have hi49 : i < 49 := by omega
    obtain ⟨g, h1, h2⟩ := ih (i + 1) fu (vp_updL f i (v6 n i)) (by omega) (by omega) (fun k hk => by
      by_cases e : k = i
      · subst e; rw [updL_at, v6_nb hn (by omega)]
      · unfold vp_updL; rw [if_neg e]; exact h0 k (by omega))
    refine ⟨g, ?_, h2⟩
    rw [joins_eq hi49]
    show (Option.bind (m_X6_joins (nI n) (vp_updL f i _) (nI i) _ _) _) = _
    rw [joins_eq hi49]
    show (Option.bind (m_X6_joins (nI n) (vp_updL f i _) (nI i) _ _) _) = _
    rw [joins_eq hi49]
    show (Option.bind (m_X6_joins (nI n) (vp_updL f i _) (nI i) _ _) _) = _
    rw [joins_eq hi49]
    show (Option.bind (m_X6_joins (nI n) (vp_updL f i _) (nI i) _ _) _) = _
    rw [joins_eq hi49]
    show (Option.bind (m_X6_joins (nI n) (vp_updL f i _) (nI i) _ _) _) = _
    rw [joins_eq hi49]
    show m_X6_shapes_c2 (nI n) fu (nI i + 1) (vp_updL f i (v6 n i)) = some g
    rw [nI_1]
    exact h1
theorem m_shapes {n : Nat} (hn : 2 ≤ n ∧ n ≤ 7) (f : Nat → Int64) : ∃ g, m_X6_shapes (nI n) f = some g ∧ Near n g := by
  have h49 := nn_lt hn
  exact shapes_loop hn (n * n) 0 FU f (by omega) (FU_ge (by omega)) (fun k hk => absurd hk (by omega))
/-! games -/
theorem pcb_or_bit {x : Int64} {c : Nat} (hc : c < 64) (hx : tb x c = false) (m : Nat) (hm : m ≤ 64) : pcb (x ||| jshl 1 (nI c)) m = pcb x m + (if c < m then 1 else 0) := by
  induction m with
  | zero => rw [if_neg (by omega)]; rfl
  | succ m ih =>
    unfold pcb
    rw [ih (by omega), tb_or, tb_one hc (by omega)]
    by_cases e : m = c
    · subst e
      have h1 : ¬ m < m := by omega
      have h2 : m < m + 1 := by omega
      simp [hx, h1, h2]
    · have h3 : (c < m + 1) ↔ (c < m) := by omega
      simp only [e, decide_false, Bool.or_false, h3]
      omega
theorem pc_or_bit {x : Int64} {c : Nat} (hc : c < 64) (hx : tb x c = false) : pc (x ||| jshl 1 (nI c)) = pc x + 1 := by
  unfold pc
  rw [pcb_or_bit hc hx 64 (Nat.le_refl 64), if_pos hc]
theorem pcb_disj {x y : Int64} (h : ∀ k, tb x k = true → tb y k = false) (m : Nat) : pcb (x ||| y) m = pcb x m + pcb y m := by
  induction m with
  | zero => rfl
  | succ m ih =>
    unfold pcb
    rw [ih, tb_or]
    cases hx : tb x m
    · cases hy : tb y m <;> simp <;> omega
    · rw [h m hx]; simp; omega
theorem pc_disj {x y : Int64} (h : ∀ k, tb x k = true → tb y k = false) : pc (x ||| y) = pc x + pc y := pcb_disj h 64
def swc (n : Nat) (c : Int32) : Int32 := jirem c (nI n) * nI n + c / nI n
/-- the stones after k moves -/
def st (n : Nat) (f : Nat → Int32) : Nat → Int64 × Int64
  | 0 => (0, 0)
  | k + 1 => if f k = -16 then (0, jshl 1 (swc n (f 0))) else if k % 2 = 0 then ((st n f k).1 ||| jshl 1 (f k), (st n f k).2) else ((st n f k).1, (st n f k).2 ||| jshl 1 (f k))
def MoveOk (n : Nat) (f : Nat → Int32) (k : Nat) : Prop := (k = 1 ∧ f k = -16) ∨ ∃ c, c < n * n ∧ f k = nI c ∧ tb (st n f k).1 c = false ∧ tb (st n f k).2 c = false
def Valid (n : Nat) (f : Nat → Int32) (K : Nat) : Prop := ∀ k, k < K → MoveOk n f k
theorem st_congr {n : Nat} {f g : Nat → Int32} : ∀ (m : Nat), (∀ k, k < m → g k = f k) → st n g m = st n f m := by
  intro m
  induction m with
  | zero => intro _; rfl
  | succ m ih =>
    intro h
    unfold st
    rw [ih (fun k hk => h k (by omega)), h m (by omega), h 0 (by omega)]
theorem nI_n16 {c : Nat} (h : c < 2 ^ 31) : ¬ nI c = (-16 : Int32) := by
  intro e
  have h1 := nI_toInt h
  rw [e] at h1
  have : (-16 : Int32).toInt = -16 := rfl
  omega
theorem swc_lt {n : Nat} (hn : 2 ≤ n ∧ n ≤ 7) {c : Nat} (hc : c < n * n) : ∃ d, d < n * n ∧ swc n (nI c) = nI d := by
  have h49 := nn_lt hn
  have key : ∀ c, c < 49 → c < n * n → swc n (nI c) = nI (c % n * n + c / n) ∧ c % n * n + c / n < n * n :=
    n27 (P := fun n => ∀ c, c < 49 → c < n * n → swc n (nI c) = nI (c % n * n + c / n) ∧ c % n * n + c / n < n * n) (by decide +kernel) (by decide +kernel) (by decide +kernel) (by decide +kernel) (by decide +kernel) (by decide +kernel) hn
  exact ⟨_, (key c (by omega) hc).2, (key c (by omega) hc).1⟩
/-- what a valid game's stones are like -/
theorem st_ok {n : Nat} (hn : 2 ≤ n ∧ n ≤ 7) {f : Nat → Int32} {K : Nat} (hv : Valid n f K) : ∀ m, m ≤ K → sub (st n f m).1 (full n) ∧ sub (st n f m).2 (full n) ∧ (∀ k, tb (st n f m).1 k = true → tb (st n f m).2 k = false) ∧ m ≤ pc (st n f m).1 + pc (st n f m).2 + 1 := by
  have h49 := nn_lt hn
  intro m
  induction m with
  | zero =>
    intro _
    refine ⟨sub_zero _, sub_zero _, fun k _ => tb_zero k, Nat.zero_le _⟩
  | succ m ih =>
    intro hm
    obtain ⟨h1, h2, h3, h4⟩ := ih (by omega)
    rcases hv m (by omega) with ⟨e1, e2⟩ | ⟨c, hc, e, f1, f2⟩
    · unfold st
      rw [if_pos e2]
      subst e1
      have h0 := hv 0 (by omega)
      rcases h0 with ⟨q, -⟩ | ⟨c, hc, e, -, -⟩
      · omega
      · obtain ⟨d, hd, ed⟩ := swc_lt hn hc
        rw [e, ed]
        refine ⟨sub_zero _, sub_bit hn hd, fun k hk => (by rw [tb_zero] at hk; cases hk), ?_⟩
        have hp := pc_or_bit (x := 0) (c := d) (by omega) (tb_zero d)
        have e0 : (0 : Int64) ||| jshl 1 (nI d) = jshl 1 (nI d) := by apply tb_ext; intro k _; rw [tb_or, tb_zero, Bool.false_or]
        rw [e0] at hp
        show 1 + 1 ≤ pc 0 + pc (jshl 1 (nI d)) + 1
        omega
    · have hne : ¬ f m = -16 := by rw [e]; exact nI_n16 (by omega)
      unfold st
      rw [if_neg hne, e]
      have hb := sub_bit hn hc
      by_cases hp : m % 2 = 0
      · rw [if_pos hp]
        refine ⟨or_sub h1 hb, h2, fun k hk => ?_, ?_⟩
        · rw [tb_or, Bool.or_eq_true] at hk
          rcases hk with hk | hk
          · exact h3 k hk
          · rw [tb_one (by omega) (tb_lt64 hk)] at hk
            rw [of_decide_eq_true hk]; exact f2
        · have := pc_or_bit (x := (st n f m).1) (c := c) (by omega) f1
          show m + 1 ≤ pc ((st n f m).1 ||| jshl 1 (nI c)) + pc (st n f m).2 + 1
          omega
      · rw [if_neg hp]
        refine ⟨h1, or_sub h2 hb, fun k hk => ?_, ?_⟩
        · show tb ((st n f m).2 ||| jshl 1 (nI c)) k = false
          rw [tb_or, h3 k hk, tb_one (by omega) (tb_lt64 hk)]
          simp
          intro q; subst q; rw [f1] at hk; cases hk
        · have := pc_or_bit (x := (st n f m).2) (c := c) (by omega) f2
          show m + 1 ≤ pc (st n f m).1 + pc ((st n f m).2 ||| jshl 1 (nI c)) + 1
          omega
theorem st_count {n : Nat} (hn : 2 ≤ n ∧ n ≤ 7) {f : Nat → Int32} {K m : Nat} (hv : Valid n f K) (hm : m ≤ K) : m ≤ n * n + 1 ∧ ((∃ c, c < n * n ∧ tb (st n f m).1 c = false ∧ tb (st n f m).2 c = false) → m ≤ n * n) := by
  obtain ⟨h1, h2, h3, h4⟩ := st_ok hn hv m hm
  have hs := or_sub h1 h2
  have hd := pc_disj h3
  have hl := pc_mono hs
  rw [pc_full hn] at hl
  refine ⟨by omega, ?_⟩
  rintro ⟨c, hc, a1, a2⟩
  have : pc ((st n f m).1 ||| (st n f m).2) < pc (full n) := by
    refine pcb_strict hs (k := c) (m := 64) (by have := nn_lt hn; omega) ?_ (by rw [tb_or, a1, a2]; rfl)
    rw [tb_full hn (by have := nn_lt hn; omega)]
    exact decide_eq_true hc
  rw [pc_full hn] at this
  omega
theorem K_le {n : Nat} (hn : 2 ≤ n ∧ n ≤ 7) {f : Nat → Int32} {K : Nat} (hv : Valid n f K) : K ≤ 50 := by
  have h49 := nn_lt hn
  have := (st_count hn hv (Nat.le_refl K)).1
  omega
theorem irem2 {i : Nat} (h : i < 2 ^ 31) : jirem (nI i) 2 = nI (i % 2) := pk_rem (a := i) (d := 2) h (by decide) (by decide)
theorem nI_mod2 {i : Nat} : nI (i % 2) = 0 ↔ i % 2 = 0 := by
  have : i % 2 < 2 := Nat.mod_lt _ (by decide)
  rw [← nI_0, nI_eq (by omega) (by omega)]
/-- the reference's move -/
theorem m_lays {n : Nat} (hn : 2 ≤ n ∧ n ≤ 7) {f g : Nat → Int32} {k : Nat} (hk : k < 64) (hg0 : g 0 = f 0) (hgk : g k = f k) : m_X6_lays (nI n) (st n f k).1 (st n f k).2 g (g k) (jirem (nI k) 2) = some (st n f (k + 1)) := by
  unfold m_X6_lays
  rw [hgk, irem2 (by omega)]
  rw [show (0 : Int32).toNatClampNeg = 0 from rfl, hg0, if_neg (nI_nz hn), if_neg (nI_nz hn)]
  conv => rhs; unfold st
  by_cases e : f k = -16
  · rw [if_pos e, if_pos e]; rfl
  · rw [if_neg e, if_neg e]
    by_cases hp : k % 2 = 0
    · rw [if_pos (nI_mod2.mpr hp), if_pos hp]
    · rw [if_neg (fun q => hp (nI_mod2.mp q)), if_neg hp]
theorem goes_loop {n : Nat} (hn : 2 ≤ n ∧ n ≤ 7) {f g : Nat → Int32} {m : Nat} (hm : m ≤ 60) (hg : ∀ k, k < m → g k = f k) : ∀ (d i fuel : Nat), i + d = m → d + 1 ≤ fuel → m_X6_goes_c12 (nI n) g (nI m) fuel (nI i) (st n f i).1 (st n f i).2 = some (st n f m) := by
  intro d
  induction d with
  | zero =>
    intro i fuel hi hf
    obtain ⟨fu, rfl⟩ : ∃ f, fuel = f + 1 := ⟨fuel - 1, by omega⟩
    have e : i = m := by omega
    subst e
    rw [m_X6_goes_c12, if_pos (nI_le (Nat.le_refl i) (by omega))]
  | succ d ih =>
    intro i fuel hi hf
    obtain ⟨fu, rfl⟩ : ∃ f, fuel = f + 1 := ⟨fuel - 1, by omega⟩
    rw [m_X6_goes_c12, if_neg (nI_ge (a := i) (b := m) (by omega) (by omega)), if_pos (okI_nI (by omega) (by omega)), nI_clamp (by omega), m_lays hn (by omega) (hg 0 (by omega)) (hg i (by omega))]
    show m_X6_goes_c12 (nI n) g (nI m) fu (nI i + 1) (st n f (i + 1)).1 (st n f (i + 1)).2 = _
    rw [nI_1]
    exact ih (i + 1) fu (by omega) (by omega)
theorem m_goes {n : Nat} (hn : 2 ≤ n ∧ n ≤ 7) {f g : Nat → Int32} {m : Nat} (hm : m ≤ 60) (hg : ∀ k, k < m → g k = f k) : m_X6_goes (nI n) g (nI m) = some (st n f m) := by
  unfold m_X6_goes
  have := goes_loop hn hm hg m 0 FU (by omega) (FU_ge (by omega))
  exact this
/-- the class's move -/
theorem x_mirror {n : Nat} (hn : 2 ≤ n ∧ n ≤ 7) {c : Nat} (hc : c < n * n) : m_X0_mirrored (nI n) (jshl 1 (nI c)) = some (jshl 1 (swc n (nI c))) := by
  have h49 := nn_lt hn
  have key : ∀ c, c < 49 → c < n * n → m_X0_mirrored (nI n) (jshl 1 (nI c)) = some (jshl 1 (swc n (nI c))) :=
    n27 (P := fun n => ∀ c, c < 49 → c < n * n → m_X0_mirrored (nI n) (jshl 1 (nI c)) = some (jshl 1 (swc n (nI c)))) (by decide +kernel) (by decide +kernel) (by decide +kernel) (by decide +kernel) (by decide +kernel) (by decide +kernel) hn
  exact key c (by omega) hc
theorem x_moveNumber {f : Nat → Int32} {k : Nat} (hk : k < 50) : m_X3_moveNumber f (nI k) = some (f k) := by
  unfold m_X3_moveNumber
  rw [if_neg (nI_pos (by omega)), if_neg (show ¬ (50 : Int32) ≤ nI k from nI_ge (a := k) (b := 50) hk (by decide)), if_pos (okI_nI hk (by decide)), nI_clamp (by omega)]
theorem x_apply {n : Nat} (hn : 2 ≤ n ∧ n ≤ 7) {f : Nat → Int32} {K k : Nat} (hv : Valid n f K) (hk : k < K) : m_X3_apply (st n f k).1 (st n f k).2 f (nI n) (nI k) = some (st n f (k + 1)) := by
  have h49 := nn_lt hn
  have h50 := K_le hn hv
  unfold m_X3_apply
  rw [x_moveNumber (by omega)]
  show (if f k = -16 then ((m_X0_mirrored (nI n) (st n f k).1).bind fun u4 => some (0, u4)) else if jirem (nI k) 2 = 0 then some ((st n f k).1 ||| jshl 1 (f k), (st n f k).2) else some ((st n f k).1, (st n f k).2 ||| jshl 1 (f k))) = _
  conv => rhs; unfold st
  rcases hv k hk with ⟨e1, e2⟩ | ⟨c, hc, e, -, -⟩
  · subst e1
    rw [if_pos e2, if_pos e2]
    rcases hv 0 (by omega) with ⟨q, -⟩ | ⟨c, hc, e, -, -⟩
    · omega
    · have e3 : (st n f 1).1 = jshl 1 (nI c) := by
        unfold st
        rw [if_neg (by rw [e]; exact nI_n16 (by omega)), if_pos rfl, e]
        show (0 : Int64) ||| jshl 1 (nI c) = _
        apply tb_ext; intro k _; rw [tb_or, tb_zero, Bool.false_or]
      rw [e3, x_mirror hn hc, e]
      rfl
  · have hne : ¬ f k = -16 := by rw [e]; exact nI_n16 (by omega)
    rw [if_neg hne, if_neg hne, irem2 (by omega)]
    by_cases hp : k % 2 = 0
    · rw [if_pos (nI_mod2.mpr hp), if_pos hp]
    · rw [if_neg (fun q => hp (nI_mod2.mp q)), if_neg hp]
theorem x_redo {n : Nat} (hn : 2 ≤ n ∧ n ≤ 7) {f : Nat → Int32} {K k : Nat} (hv : Valid n f K) (hk : k < K) : m_X3_redo (nI k) (nI K) (st n f k).1 (st n f k).2 f (nI n) = some (nI (k + 1), (st n f (k + 1)).1, (st n f (k + 1)).2) := by
  have h50 := K_le hn hv
  unfold m_X3_redo
  rw [if_neg (nI_ge (a := k) (b := K) hk (by omega)), x_apply hn hv hk, nI_1]
  rfl
theorem undo_loop {n : Nat} (hn : 2 ≤ n ∧ n ≤ 7) {f : Nat → Int32} {K m : Nat} (hv : Valid n f K) (hm : m ≤ K) : ∀ (d i fuel : Nat), i + d = m → d + 1 ≤ fuel → m_X3_undo_c24 (nI K) f (nI n) fuel (nI m) (nI i) (nI i) (st n f i).1 (st n f i).2 = some (nI m, (st n f m).1, (st n f m).2) := by
  have h50 := K_le hn hv
  intro d
  induction d with
  | zero =>
    intro i fuel hi hf
    obtain ⟨fu, rfl⟩ : ∃ f, fuel = f + 1 := ⟨fuel - 1, by omega⟩
    have e : i = m := by omega
    subst e
    rw [m_X3_undo_c24, if_pos (nI_le (Nat.le_refl i) (by omega))]
  | succ d ih =>
    intro i fuel hi hf
    obtain ⟨fu, rfl⟩ : ∃ f, fuel = f + 1 := ⟨fuel - 1, by omega⟩
    rw [m_X3_undo_c24, if_neg (nI_ge (a := i) (b := m) (by omega) (by omega)), x_redo hn hv (by omega)]
    show m_X3_undo_c24 (nI K) f (nI n) fu (nI m) (nI i + 1) (nI (i + 1)) (st n f (i + 1)).1 (st n f (i + 1)).2 = _
    rw [nI_1]
    exact ih (i + 1) fu (by omega) (by omega)
theorem x_undo {n : Nat} (hn : 2 ≤ n ∧ n ≤ 7) {f : Nat → Int32} {K m : Nat} (hv : Valid n f K) (hm : m + 1 ≤ K) : m_X3_undo (nI (m + 1)) (nI K) f (nI n) = some (nI m, (st n f m).1, (st n f m).2) := by
  have h50 := K_le hn hv
  unfold m_X3_undo
  rw [nI_pred]
  exact undo_loop hn hv (by omega) m 0 FU (by omega) (FU_ge (by omega))
theorem upd_at (f : Nat → Int32) (k : Nat) (v : Int32) : upd f k v k = v := by unfold upd; rw [if_pos rfl]
theorem upd_ne (f : Nat → Int32) {k j : Nat} (v : Int32) (h : j ≠ k) : upd f k v j = f j := by unfold upd; rw [if_neg h]
/-- a further move -/
theorem valid_add {n : Nat} {f : Nat → Int32} {K m : Nat} {v : Int32} (hv : Valid n f K) (hm : m ≤ K) (hok : (m = 1 ∧ v = -16) ∨ ∃ c, c < n * n ∧ v = nI c ∧ tb (st n f m).1 c = false ∧ tb (st n f m).2 c = false) : Valid n (upd f m v) (m + 1) ∧ st n (upd f m v) m = st n f m := by
  have hst : ∀ j, j ≤ m → st n (upd f m v) j = st n f j := fun j hj => st_congr j (fun k hk => upd_ne f v (by omega))
  refine ⟨fun k hk => ?_, hst m (Nat.le_refl m)⟩
  by_cases e : k = m
  · subst e
    unfold MoveOk
    rw [upd_at, hst k (Nat.le_refl k)]
    exact hok
  · unfold MoveOk
    rw [upd_ne f v e, hst k (by omega)]
    exact hv k (by omega)
theorem x_add {n : Nat} (hn : 2 ≤ n ∧ n ≤ 7) {f : Nat → Int32} {K m : Nat} {v : Int32} (hv : Valid n f K) (hm : m ≤ K) (hok : (m = 1 ∧ v = -16) ∨ ∃ c, c < n * n ∧ v = nI c ∧ tb (st n f m).1 c = false ∧ tb (st n f m).2 c = false) : m < 50 ∧ m_X3_add (nI m) (nI K) (st n f m).1 (st n f m).2 f (nI n) v = some (nI (m + 1), nI (m + 1), (st n (upd f m v) (m + 1)).1, (st n (upd f m v) (m + 1)).2, upd f m v) := by
  have h49 := nn_lt hn
  have hm50 : m < 50 := by
    rcases hok with ⟨e, -⟩ | ⟨c, hc, -, a1, a2⟩
    · omega
    · have := (st_count hn hv hm).2 ⟨c, hc, a1, a2⟩
      omega
  obtain ⟨h1, h2⟩ := valid_add hv hm hok
  refine ⟨hm50, ?_⟩
  unfold m_X3_add
  rw [if_neg (show ¬ (50 : Int32) ≤ nI m from nI_ge (a := m) (b := 50) hm50 (by decide)), if_pos (okI_nI hm50 (by decide)), nI_clamp (by omega), nI_1]
  have := x_redo hn h1 (k := m) (by omega)
  rw [h2] at this
  rw [this]
  rfl
theorem m_adds {n : Nat} (hn : 2 ≤ n ∧ n ≤ 7) {f g : Nat → Int32} {m : Nat} {v : Int32} (hm : m < 50) (hg : ∀ k, k < m → g k = f k) : m_X6_adds (nI n) (nI m) g v = some (nI (m + 1), nI (m + 1), (st n (upd f m v) (m + 1)).1, (st n (upd f m v) (m + 1)).2, upd g m v) := by
  unfold m_X6_adds
  rw [if_pos (okI_nI (by omega) (by omega)), nI_clamp (by omega), nI_1, m_goes hn (f := upd f m v) (by omega) (fun k hk => by
    by_cases e : k = m
    · subst e; rw [upd_at, upd_at]
    · rw [upd_ne _ _ e, upd_ne _ _ e]; exact hg k (by omega))]
  rfl

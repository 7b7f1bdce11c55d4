/-! the reference's bridges -/
theorem and_not_zero {x f : Int64} : x &&& f = x ↔ x &&& (f ^^^ (-1)) = 0 := by
  rw [and_eq_zero]
  constructor
  · intro h k h1 h2
    rw [tb_not _ (tb_lt64 h1)] at h2
    rw [← h, tb_and, Bool.and_eq_true] at h1
    rw [h1.2] at h2
    cases h2
  · intro h
    apply tb_ext
    intro k hk
    rw [tb_and]
    have := h k
    rw [tb_not _ hk] at this
    cases h1 : tb x k <;> cases h2 : tb f k <;> simp_all
def cv (n : Nat) (fr : Int64) (a b : Nat) : Int64 := if adj n a b = false ∧ pc (nb n a &&& nb n b) = 2 ∧ (nb n a &&& nb n b) &&& (fr ^^^ (-1)) = 0 then nb n a &&& nb n b else 0
theorem m_carrier {n : Nat} (hn : 2 ≤ n ∧ n ≤ 7) {near : Nat → Int64} (hN : Near n near) {a b : Nat} (ha : a < n * n) (hb : b < n * n) (fr : Int64) : m_X6_carrier near (nI a) (nI b) fr = some (cv n fr a b) := by
  have h49 := nn_lt hn
  unfold m_X6_carrier cv
  rw [if_pos (okI_nI (by omega) (by decide)), if_pos (okI_nI (by omega) (by decide)), if_pos (okI_nI (by omega) (by decide)), nI_clamp (by omega), nI_clamp (by omega), hN a ha, hN b hb, has_eq _ (by omega), tb_nb hn ha, m_size, bs]
  have hpl := pc_le (nb n a &&& nb n b)
  by_cases h1 : adj n a b = true
  · rw [if_pos h1, if_neg one_nz, if_neg (fun q => by rw [h1] at q; cases q.1)]
  · have h1' : adj n a b = false := by simpa using h1
    rw [if_neg h1, if_pos rfl]
    by_cases h2 : pc (nb n a &&& nb n b) = 2
    · rw [if_pos (by rw [h2]; rfl)]
      by_cases h3 : (nb n a &&& nb n b) &&& (fr ^^^ (-1)) = 0
      · rw [if_pos (and_not_zero.mpr h3), if_pos ⟨h1', h2, h3⟩]
      · rw [if_neg (fun q => h3 (and_not_zero.mp q)), if_neg (fun q => h3 q.2.2)]
    · rw [if_neg (show ¬ nI (pc (nb n a &&& nb n b)) = (2 : Int32) from fun q => h2 ((nI_eq (b := 2) (by omega) (by decide)).mp q)), if_neg (fun q => h2 q.2.1)]
theorem isB_iff {n : Nat} {own fr : Int64} {a b : Nat} : isB n own fr a b = true ↔ tb own a = true ∧ tb own b = true ∧ ¬ cv n fr a b = 0 := by
  unfold isB cv
  simp only [Bool.and_eq_true, Bool.not_eq_true', decide_eq_true_eq]
  constructor
  · rintro ⟨⟨⟨⟨h1, h2⟩, h3⟩, h4⟩, h5⟩
    refine ⟨h1, h2, ?_⟩
    rw [if_pos ⟨h3, h4, h5⟩]
    intro e
    rw [e, pc_zero] at h4
    omega
  · rintro ⟨h1, h2, h3⟩
    by_cases q : adj n a b = false ∧ pc (nb n a &&& nb n b) = 2 ∧ (nb n a &&& nb n b) &&& (fr ^^^ (-1)) = 0
    · exact ⟨⟨⟨⟨h1, h2⟩, q.1⟩, q.2.1⟩, q.2.2⟩
    · rw [if_neg q] at h3; exact absurd rfl h3
theorem isB_cv {n : Nat} {own fr : Int64} {a b : Nat} (h : isB n own fr a b = true) : cv n fr a b = nb n a &&& nb n b := by
  have h3 := (isB_iff.mp h).2.2
  unfold cv at h3 ⊢
  by_cases q : adj n a b = false ∧ pc (nb n a &&& nb n b) = 2 ∧ (nb n a &&& nb n b) &&& (fr ^^^ (-1)) = 0
  · rw [if_pos q]
  · rw [if_neg q] at h3; exact absurd rfl h3
theorem inn_at {n : Nat} {own fr : Int64} {a b d : Nat} (h : b + (d + 1) = n * n) : inn n own fr a (d + 1) = if isB n own fr a b = true then (a * 64 + b) :: inn n own fr a d else inn n own fr a d := by
  rw [inn, show n * n - (d + 1) = b by omega]
theorem out_at {n : Nat} {own fr : Int64} {a d : Nat} (h : a + (d + 1) = n * n) : out n own fr (d + 1) = inn n own fr a d ++ out n own fr d := by
  rw [out, show n * n - (d + 1) = a by omega]
theorem br_inn {n : Nat} (hn : 2 ≤ n ∧ n ≤ 7) {s0 s1 : Int64} {near : Nat → Int64} (hN : Near n near) (p : Int32) {a : Nat} (ha : a < n * n) (k14 : Int32 → Int32 → Option Int32) : ∀ (d b fuel c : Nat), b + d = n * n → d + 1 ≤ fuel → m_X6_bridges_c32 (nI n) s0 s1 near p k14 fuel (nI c) (nI a) (nI b) = k14 (nI (c + (inn n (m_X3_stonesOf s0 s1 p) (m_X3_free s0 s1 (full n)) a d).length)) (nI (a + 1)) := by
  have h49 := nn_lt hn
  intro d
  induction d with
  | zero =>
    intro b fuel c hb hf
    obtain ⟨fu, rfl⟩ : ∃ f, fuel = f + 1 := ⟨fuel - 1, by omega⟩
    rw [m_X6_bridges_c32, pk_mul, if_pos (nI_le (by omega) (by omega)), nI_1]
    rfl
  | succ d ih =>
    intro b fuel c hb hf
    obtain ⟨fu, rfl⟩ : ∃ f, fuel = f + 1 := ⟨fuel - 1, by omega⟩
    rw [m_X6_bridges_c32, pk_mul, if_neg (nI_ge (a := b) (b := n * n) (by omega) (by omega)), own_eq, has_eq _ (by omega), has_eq _ (by omega), m_carrier hn hN ha (by omega), bs, inn_at hb, free_eq hn]
    have skip : ¬ isB n (m_X3_stonesOf s0 s1 p) (m_X3_free s0 s1 (full n)) a b = true → m_X6_bridges_c92 (m_X6_bridges_c32 (nI n) s0 s1 near p k14 fu) (nI a) (nI b) (nI c) = k14 (nI (c + (if isB n (m_X3_stonesOf s0 s1 p) (m_X3_free s0 s1 (full n)) a b = true then (a * 64 + b) :: inn n (m_X3_stonesOf s0 s1 p) (m_X3_free s0 s1 (full n)) a d else inn n (m_X3_stonesOf s0 s1 p) (m_X3_free s0 s1 (full n)) a d).length)) (nI (a + 1)) := by
      intro hq
      rw [if_neg hq]
      unfold m_X6_bridges_c92 m_X6_bridges_c93
      rw [show nI c + (0 : Int32) = nI c from Int32.add_zero _, nI_1]
      exact ih (b + 1) fu c (by omega) (by omega)
    by_cases h1 : tb (m_X3_stonesOf s0 s1 p) a = true
    · rw [if_pos h1, if_neg one_nz]
      by_cases h2 : tb (m_X3_stonesOf s0 s1 p) b = true
      · rw [if_pos h2, if_neg one_nz]
        by_cases h3 : cv n (m_X3_free s0 s1 (full n)) a b = 0
        · rw [if_pos h3]
          exact skip (fun q => (isB_iff.mp q).2.2 h3)
        · rw [if_neg h3, if_pos (isB_iff.mpr ⟨h1, h2, h3⟩)]
          unfold m_X6_bridges_c93
          rw [nI_1, nI_1, ih (b + 1) fu (c + 1) (by omega) (by omega), List.length_cons]
          rw [show ∀ z, c + 1 + z = c + (z + 1) from fun z => by omega]
      · rw [if_neg h2, if_pos rfl]
        exact skip (fun q => h2 (isB_iff.mp q).2.1)
    · rw [if_neg h1, if_pos rfl]
      exact skip (fun q => h1 (isB_iff.mp q).1)
theorem br_out {n : Nat} (hn : 2 ≤ n ∧ n ≤ 7) {s0 s1 : Int64} {near : Nat → Int64} (hN : Near n near) (p : Int32) : ∀ (d a fuel c : Nat), a + d = n * n → d + 1 ≤ fuel → m_X6_bridges_c14 (nI n) s0 s1 near p fuel (nI c) (nI a) = some (nI (c + (out n (m_X3_stonesOf s0 s1 p) (m_X3_free s0 s1 (full n)) d).length)) := by
  have h49 := nn_lt hn
  intro d
  induction d with
  | zero =>
    intro a fuel c ha hf
    obtain ⟨fu, rfl⟩ : ∃ f, fuel = f + 1 := ⟨fuel - 1, by omega⟩
    rw [m_X6_bridges_c14, pk_mul, if_pos (nI_le (by omega) (by omega))]
    rfl
  | succ d ih =>
    intro a fuel c ha hf
    obtain ⟨fu, rfl⟩ : ∃ f, fuel = f + 1 := ⟨fuel - 1, by omega⟩
    rw [m_X6_bridges_c14, pk_mul, if_neg (nI_ge (a := a) (b := n * n) (by omega) (by omega)), nI_1, br_inn hn hN p (by omega) _ d (a + 1) FU c (by omega) (FU_ge (by omega)), ih (a + 1) fu _ (by omega) (by omega), out_at ha, List.length_append, Nat.add_assoc]
theorem m_bridges {n : Nat} (hn : 2 ≤ n ∧ n ≤ 7) {s0 s1 : Int64} {near : Nat → Int64} (hN : Near n near) {p : Int32} (hp : m_X6_isPlayer p = 1) : m_X6_bridges (nI n) s0 s1 near p = some (nI (out n (m_X3_stonesOf s0 s1 p) (m_X3_free s0 s1 (full n)) (n * n)).length) := by
  have h49 := nn_lt hn
  unfold m_X6_bridges
  rw [hp, if_neg one_nz]
  have := br_out (s0 := s0) (s1 := s1) hn hN p (n * n) 0 FU 0 (by omega) (FU_ge (by omega))
  rw [Nat.zero_add] at this
  exact this
theorem bridges_eq {n : Nat} (hn : 2 ≤ n ∧ n ≤ 7) {s0 s1 : Int64} {near : Nat → Int64} (hN : Near n near) (p : Int32) (h0 : sub s0 (full n)) (h1 : sub s1 (full n)) (f : Nat → Int32) : ∃ ox oy, m_X5_bridges s0 s1 f (B_size (bdn n)) (B_cells (bdn n)) (B_all (bdn n)) (B_left (bdn n)) (B_right (bdn n)) p = some ox ∧ m_X6_bridges (nI n) s0 s1 near p = some oy ∧ ox.1 = oy := by
  rcases player_cases p with ⟨a, b⟩ | ⟨a, b, c⟩
  · unfold m_X5_bridges m_X6_bridges
    rw [a, b]
    exact ⟨_, _, rfl, rfl, rfl⟩
  · obtain ⟨f', e1, -⟩ := x_find hn (own := m_X3_stonesOf s0 s1 p) (m_X3_free s0 s1 (full n)) (own_sub h0 h1 p) f
    unfold m_X5_bridges
    rw [m_bridges hn hN b, a, if_neg one_nz, e1]
    exact ⟨_, _, rfl, rfl, rfl⟩
theorem s_bridges : S_bridges InvR := by
  rintro x b y t0 t1 ⟨n, m, K, hn, rfl, ⟨g1, g2, g3, g4, g5, g6, g7, g8, g9, g10, g11, g12⟩, hN, hR⟩ p1
  obtain ⟨q1, q2, q3, -⟩ := st_ok hn g7 m g6
  obtain ⟨ox, oy, e1, e2, e3⟩ := bridges_eq hn hN p1 q1 q2 (X_o_foundBridges x)
  rw [g1, g9, g10, g11, g12]
  exact ⟨ox, oy, e1, e2, e3, n, m, K, hn, rfl, ⟨g1, g2, g3, g4, g5, g6, g7, g8, rfl, rfl, g11, g12⟩, hN, hR⟩
/-! one bridge -/
theorem inn_mem {n : Nat} {own fr : Int64} {a : Nat} : ∀ (d c : Nat), c ∈ inn n own fr a d → ∃ b, c = a * 64 + b ∧ isB n own fr a b = true
  | 0, c, h => by cases h
  | d + 1, c, h => by
    unfold inn at h
    by_cases q : isB n own fr a (n * n - (d + 1)) = true
    · rw [if_pos q] at h
      rcases List.mem_cons.mp h with h | h
      · exact ⟨_, h, q⟩
      · exact inn_mem d c h
    · rw [if_neg q] at h
      exact inn_mem d c h
theorem out_mem {n : Nat} {own fr : Int64} : ∀ (d c : Nat), c ∈ out n own fr d → ∃ a b, c = a * 64 + b ∧ isB n own fr a b = true
  | 0, c, h => by cases h
  | d + 1, c, h => by
    unfold out at h
    rcases List.mem_append.mp h with h | h
    · obtain ⟨b, h1, h2⟩ := inn_mem d c h
      exact ⟨_, b, h1, h2⟩
    · exact out_mem d c h
def lw (x : Int64) : Nat := (m_X6_lowest x).elim 0 (fun v => v.toNatClampNeg)
theorem lw_low {x : Int64} {l : Nat} (h : low x l) : m_X6_lowest x = some (nI (lw x)) ∧ m_X5_lowest x = nI (lw x) := by
  have hl := h.1
  have e : lw x = l := by
    unfold lw
    rw [m_lowest h]
    exact nI_clamp (by omega)
  rw [e, m_lowest h, x_lowest h]
  exact ⟨rfl, rfl⟩
def bans (n : Nat) (w : Int32) (c : Nat) : Int32 := if w = 0 then nI (c / 64) else if w = 1 then nI (c % 64) else if w = 2 then nI (lw (nb n (c / 64) &&& nb n (c % 64))) else nI (lw ((nb n (c / 64) &&& nb n (c % 64)) &&& ((nb n (c / 64) &&& nb n (c % 64)) - 1)))
theorem two_low {x : Int64} (h : pc x = 2) : ∃ l k, low x l ∧ low (x &&& (x - 1)) k ∧ x &&& (jshl 1 (nI l) ^^^ (-1)) = x &&& (x - 1) := by
  have h0 : ¬ x = 0 := fun e => by rw [e, pc_zero] at h; omega
  obtain ⟨l, hl⟩ := low_ex h0
  have h1 := pc_clear hl
  have h2 : ¬ x &&& (x - 1) = 0 := fun e => by rw [e, pc_zero] at h1; omega
  obtain ⟨k, hk⟩ := low_ex h2
  refine ⟨l, k, hl, hk, ?_⟩
  apply tb_ext
  intro j hj
  rw [low_clear hl hj, tb_and, tb_not _ hj, tb_one hl.1 hj]
theorem isB_pc {n : Nat} {own fr : Int64} {a b : Nat} (h : isB n own fr a b = true) : pc (nb n a &&& nb n b) = 2 := by
  unfold isB at h
  simp only [Bool.and_eq_true, decide_eq_true_eq] at h
  exact h.1.2
theorem bg_inn {n : Nat} (hn : 2 ≤ n ∧ n ≤ 7) {s0 s1 : Int64} {near : Nat → Int64} (hN : Near n near) (p w : Int32) {a : Nat} (ha : a < n * n) (k43 : Int32 → Int32 → Option Int32) : ∀ (d b fuel L : Nat), b + d = n * n → d + 1 ≤ fuel → L < 1000 → m_X6_bridge_c63 (nI n) s0 s1 near p w k43 fuel (nI L) (nI a) (nI b) = match (inn n (m_X3_stonesOf s0 s1 p) (m_X3_free s0 s1 (full n)) a d)[L]? with | some c => some (bans n w c) | none => k43 (nI (L - (inn n (m_X3_stonesOf s0 s1 p) (m_X3_free s0 s1 (full n)) a d).length)) (nI (a + 1)) := by
  have h49 := nn_lt hn
  intro d
  induction d with
  | zero =>
    intro b fuel L hb hf hL
    obtain ⟨fu, rfl⟩ : ∃ f, fuel = f + 1 := ⟨fuel - 1, by omega⟩
    rw [m_X6_bridge_c63, pk_mul, if_pos (nI_le (by omega) (by omega)), nI_1]
    rfl
  | succ d ih =>
    intro b fuel L hb hf hL
    obtain ⟨fu, rfl⟩ : ∃ f, fuel = f + 1 := ⟨fuel - 1, by omega⟩
    rw [m_X6_bridge_c63, pk_mul, if_neg (nI_ge (a := b) (b := n * n) (by omega) (by omega)), own_eq, has_eq _ (by omega), has_eq _ (by omega), m_carrier hn hN ha (by omega), bs, inn_at hb, free_eq hn]
    have skip : ∀ z : Int64, z = 0 → ¬ isB n (m_X3_stonesOf s0 s1 p) (m_X3_free s0 s1 (full n)) a b = true → m_X6_bridge_c119 w (m_X6_bridge_c63 (nI n) s0 s1 near p w k43 fu) (nI L) (nI a) (nI b) z = match (if isB n (m_X3_stonesOf s0 s1 p) (m_X3_free s0 s1 (full n)) a b = true then (a * 64 + b) :: inn n (m_X3_stonesOf s0 s1 p) (m_X3_free s0 s1 (full n)) a d else inn n (m_X3_stonesOf s0 s1 p) (m_X3_free s0 s1 (full n)) a d)[L]? with | some c => some (bans n w c) | none => k43 (nI (L - (if isB n (m_X3_stonesOf s0 s1 p) (m_X3_free s0 s1 (full n)) a b = true then (a * 64 + b) :: inn n (m_X3_stonesOf s0 s1 p) (m_X3_free s0 s1 (full n)) a d else inn n (m_X3_stonesOf s0 s1 p) (m_X3_free s0 s1 (full n)) a d).length)) (nI (a + 1)) := by
      intro z hz hq
      rw [if_neg hq]
      unfold m_X6_bridge_c119 m_X6_bridge_c184 m_X6_bridge_c198
      rw [if_pos hz, if_pos hz, show nI L - (0 : Int32) = nI L from Int32.sub_zero _, nI_1]
      exact ih (b + 1) fu L (by omega) (by omega) hL
    by_cases h1 : tb (m_X3_stonesOf s0 s1 p) a = true
    · rw [if_pos h1, if_neg one_nz]
      by_cases h2 : tb (m_X3_stonesOf s0 s1 p) b = true
      · rw [if_pos h2, if_neg one_nz]
        by_cases h3 : cv n (m_X3_free s0 s1 (full n)) a b = 0
        · exact skip _ h3 (fun q => (isB_iff.mp q).2.2 h3)
        · have hB := isB_iff.mpr ⟨h1, h2, h3⟩
          have hab : (a * 64 + b) / 64 = a ∧ (a * 64 + b) % 64 = b := by omega
          rw [if_pos hB]
          unfold m_X6_bridge_c119 m_X6_bridge_c184 m_X6_bridge_c198
          rw [if_neg h3, if_neg h3]
          cases L with
          | zero =>
            rw [if_pos (show nI 0 = 0 from rfl), isB_cv hB]
            obtain ⟨l, k, hl, hk, e⟩ := two_low (isB_pc hB)
            have hll := hl.1
            rw [m_lowest hl, bs, e]
            show _ = some (bans n w (a * 64 + b))
            unfold bans
            rw [hab.1, hab.2, (lw_low hk).1, bs]
            have el : nI l = nI (lw (nb n a &&& nb n b)) := by
              have := (lw_low hl).1
              rw [m_lowest hl] at this
              exact Option.some.inj this
            rw [← el]
            split
            · rfl
            · split
              · rfl
              · split <;> rfl
          | succ L =>
            rw [if_neg (nI_ne0 (by omega) (by omega)), nI_1 b, nI_pred, ih (b + 1) fu L (by omega) (by omega) (by omega)]
            rw [List.getElem?_cons_succ, List.length_cons, show ∀ z, L + 1 - (z + 1) = L - z from fun z => by omega]
      · rw [if_neg h2, if_pos rfl]
        exact skip 0 rfl (fun q => h2 (isB_iff.mp q).2.1)
    · rw [if_neg h1, if_pos rfl]
      exact skip 0 rfl (fun q => h1 (isB_iff.mp q).1)
theorem bg_out {n : Nat} (hn : 2 ≤ n ∧ n ≤ 7) {s0 s1 : Int64} {near : Nat → Int64} (hN : Near n near) (p w : Int32) : ∀ (d a fuel L : Nat), a + d = n * n → d + 1 ≤ fuel → L < 1000 → m_X6_bridge_c43 (nI n) s0 s1 near p w fuel (nI L) (nI a) = some (match (out n (m_X3_stonesOf s0 s1 p) (m_X3_free s0 s1 (full n)) d)[L]? with | some c => bans n w c | none => -11) := by
  have h49 := nn_lt hn
  intro d
  induction d with
  | zero =>
    intro a fuel L ha hf hL
    obtain ⟨fu, rfl⟩ : ∃ f, fuel = f + 1 := ⟨fuel - 1, by omega⟩
    rw [m_X6_bridge_c43, pk_mul, if_pos (nI_le (by omega) (by omega))]
    rfl
  | succ d ih =>
    intro a fuel L ha hf hL
    obtain ⟨fu, rfl⟩ : ∃ f, fuel = f + 1 := ⟨fuel - 1, by omega⟩
    rw [m_X6_bridge_c43, pk_mul, if_neg (nI_ge (a := a) (b := n * n) (by omega) (by omega)), nI_1, bg_inn hn hN p w (by omega) _ d (a + 1) FU L (by omega) (FU_ge (by omega)) hL, out_at ha, List.getElem?_append]
    by_cases q : L < (inn n (m_X3_stonesOf s0 s1 p) (m_X3_free s0 s1 (full n)) a d).length
    · rw [if_pos q, List.getElem?_eq_getElem q]
    · rw [if_neg q, List.getElem?_eq_none (by omega)]
      exact ih (a + 1) fu _ (by omega) (by omega) (by omega)
theorem s_bridge : S_bridge InvR := by
  rintro x b y t0 t1 ⟨n, m, K, hn, rfl, ⟨g1, g2, g3, g4, g5, g6, g7, g8, g9, g10, g11, g12⟩, hN, hR⟩ p1 p2 p3
  have h49 := nn_lt hn
  obtain ⟨q1, q2, q3, -⟩ := st_ok hn g7 m g6
  suffices h : ∃ (ox : Int32 × (Nat → Int32)) (oy : Int32), m_X5_bridge (X_o_game_stones0 x) (X_o_game_stones1 x) (X_o_foundBridges x) (B_size (bdn n)) (B_cells (bdn n)) (B_all (bdn n)) (B_left (bdn n)) (B_right (bdn n)) p1 p2 p3 = some ox ∧ m_X6_bridge (Y_o_n y) (Y_o_own0 y) (Y_o_own1 y) (Y_o_near y) p1 p2 p3 = some oy ∧ ox.1 = oy by
    obtain ⟨ox, oy, e1, e2, e3⟩ := h
    exact ⟨ox, oy, e1, e2, e3, n, m, K, hn, rfl, ⟨g1, g2, g3, g4, g5, g6, g7, g8, g9, g10, g11, g12⟩, hN, hR⟩
  rw [g1, g9, g10, g11, g12]
  rcases player_cases p1 with ⟨a, b⟩ | ⟨a, b, c⟩
  · unfold m_X5_bridge m_X6_bridge
    rw [a, b]
    exact ⟨_, _, rfl, rfl, rfl⟩
  · obtain ⟨f', e1, hS⟩ := x_find hn (own := m_X3_stonesOf (st n (X_o_game_list x) m).1 (st n (X_o_game_list x) m).2 p1) (m_X3_free (st n (X_o_game_list x) m).1 (st n (X_o_game_list x) m).2 (full n)) (own_sub q1 q2 p1) (X_o_foundBridges x)
    have h147 := out_147 hn (m_X3_stonesOf (st n (X_o_game_list x) m).1 (st n (X_o_game_list x) m).2 p1) (m_X3_free (st n (X_o_game_list x) m).1 (st n (X_o_game_list x) m).2 (full n))
    unfold m_X5_bridge m_X6_bridge
    rw [m_bridges hn hN b, a, b, if_neg one_nz, if_neg one_nz, e1, bs, bs]
    generalize hl : out n (m_X3_stonesOf (st n (X_o_game_list x) m).1 (st n (X_o_game_list x) m).2 p1) (m_X3_free (st n (X_o_game_list x) m).1 (st n (X_o_game_list x) m).2 (full n)) (n * n) = l at *
    rcases pk_ix p2 (n := l.length) (by omega) with h | h | ⟨j, hj, rfl⟩
    · rw [if_neg (fun z => nlt_of_le z h), in_out (Or.inl h)]
      exact ⟨_, _, rfl, rfl, rfl⟩
    · have hge : (0 : Int32) ≤ p2 := by
        rw [Int32.le_iff_toInt_le, nI_toInt (by omega)] at h
        rw [Int32.le_iff_toInt_le]
        have : (0 : Int32).toInt = 0 := rfl
        omega
      have hout : nI l.length - 1 < p2 := by
        by_cases z : l.length = 0
        · rw [z, show nI 0 - 1 = (-1 : Int32) from rfl, Int32.lt_iff_toInt_lt]
          rw [Int32.le_iff_toInt_le] at hge
          have : (0 : Int32).toInt = 0 := rfl
          have : (-1 : Int32).toInt = -1 := rfl
          omega
        · exact m1_lt (by omega) (by omega) h
      rw [if_pos hge, if_pos h, in_out (Or.inr hout)]
      exact ⟨_, _, rfl, rfl, rfl⟩
    · have hc : l[j]? = some l[j] := List.getElem?_eq_getElem hj
      obtain ⟨ca, cb, ec, hB⟩ := out_mem (n * n) l[j] (by rw [hl]; exact List.getElem_mem hj)
      have hca := (sub_full hn).mp (own_sub q1 q2 p1) ca (isB_iff.mp hB).1
      have hcb := (sub_full hn).mp (own_sub q1 q2 p1) cb (isB_iff.mp hB).2.1
      obtain ⟨c1, c2, c3⟩ := car_code hn (a := ca) (b := cb) (by omega) (by omega)
      rw [in_nI (by omega) hj, if_neg one_nz, if_pos (nI_pos' (by omega)), if_neg (nI_ge (a := j) (b := l.length) hj (by omega)), if_pos (show nI j < (147 : Int32) from nI_lt (a := j) (b := 147) (by omega) (by decide)), if_pos (okI_nI (by omega) (by decide)), nI_clamp (by omega), show (nI l.length, f').2 j = nI l[j] from hS j _ hc]
      have hr := bg_out (s0 := (st n (X_o_game_list x) m).1) (s1 := (st n (X_o_game_list x) m).2) hn hN p1 p3 (n * n) 0 FU j (by omega) (FU_ge (by omega)) (by omega)
      rw [hl, hc] at hr
      rw [show m_X6_bridge_c43 (nI n) (st n (X_o_game_list x) m).1 (st n (X_o_game_list x) m).2 (Y_o_near y) p1 p3 FU (nI j) 0 = some (bans n p3 l[j]) from hr]
      obtain ⟨lo, k, hlo, hk, e⟩ := two_low (isB_pc hB)
      show ∃ (ox : Int32 × (Nat → Int32)) (oy : Int32), jlet (m_X5_carrierOf _ _ _ _ (nI l[j])) _ = some ox ∧ (if m_X6_in p3 0 3 = 0 then some (-12) else some (bans n p3 l[j])) = some oy ∧ ox.1 = oy
      rw [ec, c1, c2, c3]
      have hab : (ca * 64 + cb) / 64 = ca ∧ (ca * 64 + cb) % 64 = cb := by omega
      simp only [jlet, bans]
      rw [hab.1, hab.2, (lw_low hlo).2, (lw_low hk).2]
      by_cases z0 : p3 = 0
      · subst z0
        exact ⟨_, _, rfl, rfl, rfl⟩
      · by_cases z1 : p3 = 1
        · subst z1
          exact ⟨_, _, rfl, rfl, rfl⟩
        · by_cases z2 : p3 = 2
          · subst z2
            exact ⟨_, _, rfl, rfl, rfl⟩
          · by_cases z3 : p3 = 3
            · subst z3
              exact ⟨_, _, rfl, rfl, rfl⟩
            · have hin : m_X6_in p3 0 3 = 0 := by
                rcases pk_ix p3 (n := 4) (by decide) with h | h | ⟨i, hi, rfl⟩
                · exact in_out (Or.inl h)
                · exact in_out (Or.inr (show (3 : Int32) < p3 from m1_lt (N := 4) (by decide) (by decide) h))
                · have : i = 0 ∨ i = 1 ∨ i = 2 ∨ i = 3 := by omega
                  rcases this with rfl | rfl | rfl | rfl
                  · exact absurd rfl z0
                  · exact absurd rfl z1
                  · exact absurd rfl z2
                  · exact absurd rfl z3
              rw [hin, if_pos rfl, if_neg z0, if_neg z1, if_neg z2, if_neg z3]
              exact ⟨_, _, rfl, rfl, rfl⟩

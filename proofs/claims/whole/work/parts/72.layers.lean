/-! layers -/
def W1 (n : Nat) (e fr L : Int64) : Int64 := L ||| ((e ||| ar n L) &&& fr)
def nx (n : Nat) (e own fr L : Int64) : Int64 := cl n (W1 n e fr L) (W1 n e fr L ||| own)
def Ly (n : Nat) (e own fr : Int64) : Nat → Int64
  | 0 => cl n e own
  | t + 1 => nx n e own fr (Ly n e own fr t)
theorem cl_self {n : Nat} {w : Int64} (s : Int64) (h : sub s w) : sub s (cl n s w) := fun k hk => cl_seed n s w k (by rw [tb_and, hk, h k hk]; rfl)
theorem cl_wide {n : Nat} (hn : 2 ≤ n ∧ n ≤ 7) {W own : Int64} (hW : sub W (full n)) (hown : sub own (full n)) : cl n W (W ||| own) = W ||| cl n (ar n W) own := by
  have hWo : sub (W ||| own) (full n) := or_sub hW hown
  apply sub_antisymm
  · refine cl_least hn hWo (S := fun k => tb (W ||| cl n (ar n W) own) k = true) (fun i j hi ha hj => ?_) (fun k h1 _ => sub_or_l _ _ k h1)
    rw [tb_or, Bool.or_eq_true] at hi hj ⊢
    rcases hj with hj | hj
    · exact Or.inl hj
    · right
      rcases hi with hi | hi
      · exact cl_seed n _ own j (by rw [tb_and, (ar_iff hn hW j).mpr ⟨i, ha, hi⟩, hj]; rfl)
      · exact cl_closed hn hown hi ha hj
  · refine or_sub (cl_self W (sub_or_l _ _)) ?_
    refine cl_least hn hown (S := fun k => tb (cl n W (W ||| own)) k = true) (fun i j hi ha hj => cl_closed hn hWo hi ha (sub_or_r _ _ j hj)) (fun k h1 h2 => ?_)
    obtain ⟨i, ha, hi⟩ := (ar_iff hn hW k).mp h1
    exact cl_closed hn hWo (cl_self W (sub_or_l W own) i hi) ha (sub_or_r _ _ k h2)
theorem W1_sub {n : Nat} {e fr L : Int64} (hL : sub L (full n)) (hfr : sub fr (full n)) : sub (W1 n e fr L) (full n) := or_sub hL (sub_trans (and_sub_r _ _) hfr)
theorem nx_sub {n : Nat} {e own fr L : Int64} (hL : sub L (full n)) (hfr : sub fr (full n)) (hown : sub own (full n)) : sub (nx n e own fr L) (full n) := sub_trans (cl_sub _ _ _) (or_sub (W1_sub hL hfr) hown)
theorem Ly_sub {n : Nat} {e own fr : Int64} (hfr : sub fr (full n)) (hown : sub own (full n)) : ∀ t, sub (Ly n e own fr t) (full n)
  | 0 => sub_trans (cl_sub _ _ _) hown
  | t + 1 => nx_sub (Ly_sub hfr hown t) hfr hown
theorem W1_Ly {n : Nat} {e own fr : Int64} (t : Nat) : sub (W1 n e fr (Ly n e own fr t)) (Ly n e own fr (t + 1)) := cl_self _ (sub_or_l _ _)
theorem Ly_succ {n : Nat} {e own fr : Int64} (t : Nat) : sub (Ly n e own fr t) (Ly n e own fr (t + 1)) := sub_trans (sub_or_l _ _) (W1_Ly t)
theorem Ly_mono {n : Nat} {e own fr : Int64} {s t : Nat} (h : s ≤ t) : sub (Ly n e own fr s) (Ly n e own fr t) := by
  induction t with
  | zero => rw [show s = 0 by omega]; exact sub_refl _
  | succ t ih =>
    by_cases q : s = t + 1
    · rw [q]; exact sub_refl _
    · exact sub_trans (ih (by omega)) (Ly_succ t)
theorem Ly_in {n : Nat} {e own fr : Int64} : ∀ t k, tb (Ly n e own fr t) k = true → tb own k = true ∨ tb fr k = true
  | 0, k, h => Or.inl (cl_sub _ _ _ k h)
  | t + 1, k, h => by
    have h1 := cl_sub _ _ _ k h
    rw [tb_or, Bool.or_eq_true] at h1
    rcases h1 with h1 | h1
    · unfold W1 at h1
      rw [tb_or, Bool.or_eq_true, tb_and, Bool.and_eq_true] at h1
      rcases h1 with h1 | h1
      · exact Ly_in t k h1
      · exact Or.inr h1.2
    · exact Or.inl h1
theorem Ly_own {n : Nat} (hn : 2 ≤ n ∧ n ≤ 7) {e own fr : Int64} (hfr : sub fr (full n)) (hown : sub own (full n)) (t : Nat) {i j : Nat} (hi : tb (Ly n e own fr t) i = true) (ha : adj n i j = true) (hj : tb own j = true) : tb (Ly n e own fr t) j = true := by
  cases t with
  | zero => exact cl_closed hn hown hi ha hj
  | succ t => exact cl_closed hn (or_sub (W1_sub (Ly_sub hfr hown t) hfr) hown) hi ha (sub_or_r _ _ j hj)
theorem Ly_free {n : Nat} (hn : 2 ≤ n ∧ n ≤ 7) {e own fr : Int64} (hfr : sub fr (full n)) (hown : sub own (full n)) (t : Nat) {i j : Nat} (hi : tb (Ly n e own fr t) i = true) (ha : adj n i j = true) (hj : tb fr j = true) : tb (Ly n e own fr (t + 1)) j = true := by
  apply W1_Ly t
  unfold W1
  rw [tb_or, tb_and, tb_or, (ar_iff hn (Ly_sub hfr hown t) j).mpr ⟨i, ha, hi⟩, hj]
  simp
theorem Ly_fix {n : Nat} {e own fr : Int64} {t : Nat} (h : Ly n e own fr (t + 1) = Ly n e own fr t) : ∀ d, Ly n e own fr (t + d) = Ly n e own fr t := by
  intro d
  induction d with
  | zero => rfl
  | succ d ih =>
    show nx n e own fr (Ly n e own fr (t + d)) = _
    rw [ih]
    exact h
theorem Ly_grow {n : Nat} {e own fr : Int64} : ∀ t, Ly n e own fr (t + 1) ≠ Ly n e own fr t → t ≤ pc (Ly n e own fr t)
  | 0, _ => Nat.zero_le _
  | t + 1, h => by
    have h1 : Ly n e own fr (t + 1) ≠ Ly n e own fr t := fun q => h (by
      have := Ly_fix q 2
      have h2 := Ly_fix q 1
      rw [show t + 1 + 1 = t + 2 from rfl, this, h2])
    have := Ly_grow t h1
    have h3 := pc_strict (Ly_succ (n := n) (e := e) (own := own) (fr := fr) t) (fun q => h1 q.symm)
    omega
theorem Ly_sat {n : Nat} (hn : 2 ≤ n ∧ n ≤ 7) {e own fr : Int64} (hfr : sub fr (full n)) (hown : sub own (full n)) {t : Nat} (ht : 49 ≤ t) : Ly n e own fr t = Ly n e own fr 49 := by
  have h : Ly n e own fr 50 = Ly n e own fr 49 := by
    rcases Classical.em (Ly n e own fr 50 = Ly n e own fr 49) with q | q
    · exact q
    · exfalso
      have h1 := Ly_grow 49 q
      have h2 := pc_strict (Ly_succ (n := n) (e := e) (own := own) (fr := fr) 49) (fun z => q z.symm)
      have h3 := pc_mono (Ly_sub (e := e) hfr hown (49 + 1))
      rw [pc_full hn] at h3
      have := nn_lt hn
      omega
  obtain ⟨d, rfl⟩ : ∃ d, t = 49 + d := ⟨t - 49, by omega⟩
  exact Ly_fix h d
/-- the player's way ends in this layer first -/
def Fst (L : Nat → Int64) (goal : Int64) (d : Nat) : Prop := ¬ L d &&& goal = 0 ∧ ∀ s, s < d → L s &&& goal = 0
theorem x_nextLayer {n : Nat} (hn : 2 ≤ n ∧ n ≤ 7) {e own fr L : Int64} (hL : sub L (full n)) (hfr : sub fr (full n)) (hown : sub own (full n)) : m_X4_nextLayer (B_size (bdn n)) (B_cells (bdn n)) (B_all (bdn n)) (B_left (bdn n)) (B_right (bdn n)) L e own fr = some (nx n e own fr L) := by
  unfold m_X4_nextLayer
  have h : sub (L ||| ((e ||| m_X0_around (B_size (bdn n)) (B_all (bdn n)) (B_left (bdn n)) (B_right (bdn n)) L) &&& fr) ||| own) (full n) := or_sub (W1_sub (e := e) hL hfr) hown
  rw [x_flood hn h]
  rfl
theorem measure_loop {n : Nat} (hn : 2 ≤ n ∧ n ≤ 7) {s0 s1 e own goal : Int64} {p : Int32} (hfr : sub (m_X3_free s0 s1 (full n)) (full n)) (hown : sub own (full n)) (hg : m_X0_secondEdge (B_lower (bdn n)) (B_right (bdn n)) p = goal) : ∀ (d k fuel : Nat) (layers : Nat → Int64), k + d = 50 → d + 1 ≤ fuel → (∀ j, j < k → layers j = Ly n e own (m_X3_free s0 s1 (full n)) j) → (∀ j, j < k → Ly n e own (m_X3_free s0 s1 (full n)) j &&& goal = 0) → ∃ o, m_X4_measure_c32 s0 s1 (B_size (bdn n)) (B_cells (bdn n)) (B_all (bdn n)) (B_lower (bdn n)) (B_left (bdn n)) (B_right (bdn n)) p fuel own e (Ly n e own (m_X3_free s0 s1 (full n)) k) (nI k) layers = some o ∧ ((o.1 = -15 ∧ ∀ t, Ly n e own (m_X3_free s0 s1 (full n)) t &&& goal = 0) ∨ ∃ d, d ≤ 49 ∧ o.1 = nI d ∧ Fst (Ly n e own (m_X3_free s0 s1 (full n))) goal d ∧ ∀ j, j ≤ d → o.2 j = Ly n e own (m_X3_free s0 s1 (full n)) j) := by
  intro d
  induction d with
  | zero =>
    intro k fuel layers hk hf hl hz
    obtain ⟨fu, rfl⟩ : ∃ f, fuel = f + 1 := ⟨fuel - 1, by omega⟩
    have ek : k = 50 := by omega
    subst ek
    refine ⟨(-15, layers), ?_, Or.inl ⟨rfl, fun t => ?_⟩⟩
    · rw [m_X4_measure_c32, if_pos (by decide)]
    · by_cases q : t < 50
      · exact hz t q
      · rw [Ly_sat hn hfr hown (by omega)]
        exact hz 49 (by decide)
  | succ d ih =>
    intro k fuel layers hk hf hl hz
    obtain ⟨fu, rfl⟩ : ∃ f, fuel = f + 1 := ⟨fuel - 1, by omega⟩
    rw [m_X4_measure_c32, if_neg (show ¬ (49 : Int32) < nI k from nI_nlt (a := 49) (b := k) (by omega) (by decide)), if_pos (okI_nI (by omega) (by decide)), hg, nI_clamp (by omega)]
    have hl' : ∀ j, j < k + 1 → vp_updL layers k (Ly n e own (m_X3_free s0 s1 (full n)) k) j = Ly n e own (m_X3_free s0 s1 (full n)) j := by
      intro j hj
      by_cases q : j = k
      · subst q; exact pk_uLs
      · rw [pk_uLn q]; exact hl j (by omega)
    by_cases hgz : Ly n e own (m_X3_free s0 s1 (full n)) k &&& goal = 0
    · rw [if_pos hgz, x_nextLayer hn (Ly_sub hfr hown k) hfr hown, bs, nI_1]
      refine ih (k + 1) fu _ (by omega) (by omega) hl' (fun j hj => ?_)
      by_cases q : j = k
      · subst q; exact hgz
      · exact hz j (by omega)
    · rw [if_neg hgz]
      exact ⟨_, rfl, Or.inr ⟨k, by omega, rfl, ⟨hgz, hz⟩, fun j hj => hl' j (by omega)⟩⟩
abbrev edg (n : Nat) (p : Int32) : Int64 := m_X0_firstEdge (B_upper (bdn n)) (B_left (bdn n)) p
abbrev edg2 (n : Nat) (p : Int32) : Int64 := m_X0_secondEdge (B_lower (bdn n)) (B_right (bdn n)) p
theorem x_measure {n : Nat} (hn : 2 ≤ n ∧ n ≤ 7) {s0 s1 : Int64} (p : Int32) (hfr : sub (m_X3_free s0 s1 (full n)) (full n)) (hown : sub (m_X3_stonesOf s0 s1 p) (full n)) (layers : Nat → Int64) : ∃ o, m_X4_measure layers s0 s1 (B_size (bdn n)) (B_cells (bdn n)) (B_all (bdn n)) (B_upper (bdn n)) (B_lower (bdn n)) (B_left (bdn n)) (B_right (bdn n)) p = some o ∧ ((o.1 = -15 ∧ ∀ t, Ly n (edg n p) (m_X3_stonesOf s0 s1 p) (m_X3_free s0 s1 (full n)) t &&& edg2 n p = 0) ∨ ∃ d, d ≤ 49 ∧ o.1 = nI d ∧ Fst (Ly n (edg n p) (m_X3_stonesOf s0 s1 p) (m_X3_free s0 s1 (full n))) (edg2 n p) d ∧ ∀ j, j ≤ d → o.2 j = Ly n (edg n p) (m_X3_stonesOf s0 s1 p) (m_X3_free s0 s1 (full n)) j) := by
  unfold m_X4_measure
  rw [x_flood hn hown, bs]
  exact measure_loop hn hfr hown rfl 50 0 FU layers (by omega) (FU_ge (by omega)) (fun j hj => absurd hj (by omega)) (fun j hj => absurd hj (by omega))
/-! the reference's levels -/
def Rw (n : Nat) (L : Nat → Int64) (T : Nat) (far : Nat → Int32) : Prop := ∀ k, k < n * n → (∃ s, s < T ∧ tb (L s) k = true ∧ (∀ r, r < s → tb (L r) k = false) ∧ far k = nI s) ∨ ((∀ s, s < T → tb (L s) k = false) ∧ far k = 100)
def Lev (n : Nat) (L : Nat → Int64) (far : Nat → Int32) : Prop := ∀ k, k < n * n → (∃ s, s ≤ 49 ∧ tb (L s) k = true ∧ (∀ r, r < s → tb (L r) k = false) ∧ far k = nI s) ∨ ((∀ s, tb (L s) k = false) ∧ far k = 100)
theorem levF_row {n : Nat} (hn : 2 ≤ n ∧ n ≤ 7) {s0 s1 : Int64} {near : Nat → Int64} (hN : Near n near) {p2 : Int32} {e own : Int64} (he : m_X6_edge (nI n) p2 = some e) (hown : sub own (full n)) (k50 : Int64 → Int64 → Int32 → Int64 → (Nat → Int32) → Option (Nat → Int32)) {T : Nat} (hT : T ≤ 60) (hfr : sub (m_X3_free s0 s1 (full n)) (full n)) : ∀ (d i fuel : Nat) (far far0 : Nat → Int32), i + d = n * n → d + 1 ≤ fuel → Rw n (Ly n e own (m_X3_free s0 s1 (full n))) T far0 → (∀ k, i ≤ k → far k = far0 k) → (∀ k, k < i → (∃ s, s < T + 1 ∧ tb (Ly n e own (m_X3_free s0 s1 (full n)) s) k = true ∧ (∀ r, r < s → tb (Ly n e own (m_X3_free s0 s1 (full n)) r) k = false) ∧ far k = nI s) ∨ ((∀ s, s < T + 1 → tb (Ly n e own (m_X3_free s0 s1 (full n)) s) k = false) ∧ far k = 100)) → ∃ far', m_X6_levels_far_c61 (nI n) s0 s1 near p2 k50 fuel own (Ly n e own (m_X3_free s0 s1 (full n)) T) (nI T) (nI i) far = k50 own (Ly n e own (m_X3_free s0 s1 (full n)) (T + 1)) (nI (T + 1)) (Ly n e own (m_X3_free s0 s1 (full n)) T) far' ∧ Rw n (Ly n e own (m_X3_free s0 s1 (full n))) (T + 1) far' := by
  have h49 := nn_lt hn
  intro d
  induction d with
  | zero =>
    intro i fuel far far0 hi hf hR h1 h2
    obtain ⟨fu, rfl⟩ : ∃ f, fuel = f + 1 := ⟨fuel - 1, by omega⟩
    have ei : i = n * n := by omega
    subst ei
    refine ⟨far, ?_, fun k hk => h2 k hk⟩
    have hL := Ly_sub (e := e) hfr hown T
    rw [m_X6_levels_far_c61, pk_mul, if_pos (nI_le (by omega) (by omega)), m_around hn hN hL, bs, he, bs, free_eq hn]
    have ec : (ar n (Ly n e own (m_X3_free s0 s1 (full n)) T) ||| e) = (e ||| ar n (Ly n e own (m_X3_free s0 s1 (full n)) T)) := by apply tb_ext; intro k _; rw [tb_or, tb_or, Bool.or_comm]
    have hW := W1_sub (e := e) hL hfr
    rw [ec, m_around hn hN (p := Ly n e own (m_X3_free s0 s1 (full n)) T ||| ((e ||| ar n (Ly n e own (m_X3_free s0 s1 (full n)) T)) &&& m_X3_free s0 s1 (full n))) hW, bs, m_reach hn hN hown, bs, nI_1]
    rw [show Ly n e own (m_X3_free s0 s1 (full n)) (T + 1) = _ from cl_wide hn hW hown]
    rfl
  | succ d ih =>
    intro i fuel far far0 hi hf hR h1 h2
    obtain ⟨fu, rfl⟩ : ∃ f, fuel = f + 1 := ⟨fuel - 1, by omega⟩
    have hin : i < n * n := by omega
    have hrow := hR i hin
    have go : ∀ v : Int32, ((∃ s, s < T + 1 ∧ tb (Ly n e own (m_X3_free s0 s1 (full n)) s) i = true ∧ (∀ r, r < s → tb (Ly n e own (m_X3_free s0 s1 (full n)) r) i = false) ∧ v = nI s) ∨ ((∀ s, s < T + 1 → tb (Ly n e own (m_X3_free s0 s1 (full n)) s) i = false) ∧ v = 100)) → ∃ far', m_X6_levels_far_c61 (nI n) s0 s1 near p2 k50 fu own (Ly n e own (m_X3_free s0 s1 (full n)) T) (nI T) (nI (i + 1)) (upd far i v) = k50 own (Ly n e own (m_X3_free s0 s1 (full n)) (T + 1)) (nI (T + 1)) (Ly n e own (m_X3_free s0 s1 (full n)) T) far' ∧ Rw n (Ly n e own (m_X3_free s0 s1 (full n))) (T + 1) far' := by
      intro v hv
      refine ih (i + 1) fu (upd far i v) far0 (by omega) (by omega) hR (fun k hk => ?_) (fun k hk => ?_)
      · rw [upd_ne far v (by omega)]; exact h1 k (by omega)
      · by_cases q : k = i
        · subst q; rw [upd_at]; exact hv
        · rw [upd_ne far v q]; exact h2 k (by omega)
    rw [m_X6_levels_far_c61, pk_mul, if_neg (nI_ge (a := i) (b := n * n) hin (by omega)), has_eq _ (by omega)]
    have old : m_X6_levels_far_c102 (m_X6_levels_far_c61 (nI n) s0 s1 near p2 k50 fu) own (Ly n e own (m_X3_free s0 s1 (full n)) T) (nI T) (nI i) (nI i) far = m_X6_levels_far_c61 (nI n) s0 s1 near p2 k50 fu own (Ly n e own (m_X3_free s0 s1 (full n)) T) (nI T) (nI (i + 1)) (upd far i (far i)) := by
      unfold m_X6_levels_far_c102 m_X6_levels_far_c106
      rw [if_pos (okI_nI (by omega) (by omega)), if_pos (okI_nI (by omega) (by omega)), nI_clamp (by omega), nI_1]
    have new : m_X6_levels_far_c106 (m_X6_levels_far_c61 (nI n) s0 s1 near p2 k50 fu) own (Ly n e own (m_X3_free s0 s1 (full n)) T) (nI T) (nI i) (nI T) (nI i) far = m_X6_levels_far_c61 (nI n) s0 s1 near p2 k50 fu own (Ly n e own (m_X3_free s0 s1 (full n)) T) (nI T) (nI (i + 1)) (upd far i (nI T)) := by
      unfold m_X6_levels_far_c106
      rw [if_pos (okI_nI (by omega) (by omega)), nI_clamp (by omega), nI_1]
    have n100 : ∀ s, s < T → ¬ nI s = (100 : Int32) := fun s hs q => by
      have := (nI_eq (a := s) (b := 100) (by omega) (by decide)).mp q
      omega
    by_cases hb : tb (Ly n e own (m_X3_free s0 s1 (full n)) T) i = true
    · rw [if_pos hb, if_neg one_nz, if_pos (okI_nI (by omega) (by omega)), nI_clamp (by omega), h1 i (Nat.le_refl i)]
      rcases hrow with ⟨s, hs, a1, a2, a3⟩ | ⟨a1, a2⟩
      · rw [if_neg (by rw [a3]; exact n100 s hs), old]
        refine go _ (Or.inl ⟨s, by omega, a1, a2, by rw [h1 i (Nat.le_refl i)]; exact a3⟩)
      · rw [if_pos a2, new]
        exact go _ (Or.inl ⟨T, by omega, hb, a1, rfl⟩)
    · have hb' : tb (Ly n e own (m_X3_free s0 s1 (full n)) T) i = false := by simpa using hb
      rw [if_neg hb, if_pos rfl, old]
      refine go _ ?_
      rw [h1 i (Nat.le_refl i)]
      rcases hrow with ⟨s, hs, a1, a2, a3⟩ | ⟨a1, a2⟩
      · exact Or.inl ⟨s, by omega, a1, a2, a3⟩
      · refine Or.inr ⟨fun s hs => ?_, a2⟩
        by_cases q : s = T
        · subst q; exact hb'
        · exact a1 s (by omega)
theorem levF_loop {n : Nat} (hn : 2 ≤ n ∧ n ≤ 7) {s0 s1 : Int64} {near : Nat → Int64} (hN : Near n near) {p2 : Int32} {e own : Int64} (he : m_X6_edge (nI n) p2 = some e) (hown : sub own (full n)) (hfr : sub (m_X3_free s0 s1 (full n)) (full n)) : ∀ (d T fuel : Nat) (had : Int64) (far : Nat → Int32), T + d = 51 → d + 1 ≤ fuel → Rw n (Ly n e own (m_X3_free s0 s1 (full n))) T far → ((T = 0 ∧ had = -1) ∨ ∃ S, T = S + 1 ∧ had = Ly n e own (m_X3_free s0 s1 (full n)) S ∧ S ≤ pc (Ly n e own (m_X3_free s0 s1 (full n)) S)) → ∃ far', m_X6_levels_far_c50 (nI n) s0 s1 near p2 fuel own (Ly n e own (m_X3_free s0 s1 (full n)) T) (nI T) had far = some far' ∧ Lev n (Ly n e own (m_X3_free s0 s1 (full n))) far' := by
  have h49 := nn_lt hn
  have stop : ∀ (S : Nat) (far : Nat → Int32), S ≤ 50 → S ≤ pc (Ly n e own (m_X3_free s0 s1 (full n)) S) → Ly n e own (m_X3_free s0 s1 (full n)) S = Ly n e own (m_X3_free s0 s1 (full n)) (S + 1) → Rw n (Ly n e own (m_X3_free s0 s1 (full n))) (S + 1) far → Lev n (Ly n e own (m_X3_free s0 s1 (full n))) far := by
    intro S far hS hp hq hR k hk
    have hpf := pc_mono (Ly_sub (e := e) hfr hown S)
    rw [pc_full hn] at hpf
    rcases hR k hk with ⟨s, hs, a1, a2, a3⟩ | ⟨a1, a2⟩
    · exact Or.inl ⟨s, by omega, a1, a2, a3⟩
    · refine Or.inr ⟨fun s => ?_, a2⟩
      by_cases q : s < S + 1
      · exact a1 s q
      · obtain ⟨z, rfl⟩ : ∃ z, s = S + z := ⟨s - S, by omega⟩
        rw [Ly_fix hq.symm z]
        exact a1 S (by omega)
  intro d
  induction d with
  | zero =>
    intro T fuel had far hT hf hR hh
    obtain ⟨fu, rfl⟩ : ∃ f, fuel = f + 1 := ⟨fuel - 1, by omega⟩
    rcases hh with ⟨h0, -⟩ | ⟨S, rfl, rfl, hp⟩
    · omega
    · exfalso
      have hpf := pc_mono (Ly_sub (e := e) hfr hown S)
      rw [pc_full hn] at hpf
      omega
  | succ d ih =>
    intro T fuel had far hT hf hR hh
    obtain ⟨fu, rfl⟩ : ∃ f, fuel = f + 1 := ⟨fuel - 1, by omega⟩
    rw [m_X6_levels_far_c50]
    by_cases q : had = Ly n e own (m_X3_free s0 s1 (full n)) T
    · rw [if_pos q]
      refine ⟨far, rfl, ?_⟩
      rcases hh with ⟨rfl, rfl⟩ | ⟨S, rfl, rfl, hp⟩
      · exfalso
        have := Ly_sub (e := e) hfr hown 0 63 (by rw [← q]; decide)
        rw [tb_full hn (by decide)] at this
        have := of_decide_eq_true this
        omega
      · exact stop S far (by omega) hp q hR
    · rw [if_neg q]
      obtain ⟨far', e1, hR'⟩ := levF_row hn hN he hown (m_X6_levels_far_c50 (nI n) s0 s1 near p2 fu) (T := T) (by omega) hfr (n * n) 0 FU far far (by omega) (FU_ge (by omega)) hR (fun _ _ => rfl) (fun k hk => absurd hk (by omega))
      rw [show (0 : Int32) = nI 0 from rfl, e1]
      refine ih (T + 1) fu _ far' (by omega) (by omega) hR' (Or.inr ⟨T, rfl, rfl, ?_⟩)
      rcases hh with ⟨rfl, rfl⟩ | ⟨S, rfl, rfl, hp⟩
      · exact Nat.zero_le _
      · have := pc_strict (Ly_succ (n := n) (e := e) (own := own) (fr := m_X3_free s0 s1 (full n)) S) q
        omega
theorem levF_init {n : Nat} (hn : 2 ≤ n ∧ n ≤ 7) {s0 s1 : Int64} {near : Nat → Int64} (hN : Near n near) {p p2 : Int32} {e : Int64} (he : m_X6_edge (nI n) p2 = some e) (hown : sub (m_X3_stonesOf s0 s1 p) (full n)) (hfr : sub (m_X3_free s0 s1 (full n)) (full n)) : ∀ (d i fuel : Nat) (far : Nat → Int32), i + d = 49 → d + 1 ≤ fuel → (∀ k, k < i → far k = 100) → ∃ far', m_X6_levels_far_c3 (nI n) s0 s1 near p p2 fuel (nI i) far = some far' ∧ Lev n (Ly n e (m_X3_stonesOf s0 s1 p) (m_X3_free s0 s1 (full n))) far' := by
  have h49 := nn_lt hn
  intro d
  induction d with
  | zero =>
    intro i fuel far hi hf h
    obtain ⟨fu, rfl⟩ : ∃ f, fuel = f + 1 := ⟨fuel - 1, by omega⟩
    have ei : i = 49 := by omega
    subst ei
    rw [m_X6_levels_far_c3, if_pos (by decide), he, bs, own_eq, m_reach hn hN hown, bs]
    exact levF_loop hn hN he hown hfr 51 0 FU (-1) far (by omega) (FU_ge (by omega)) (fun k hk => Or.inr ⟨fun s hs => absurd hs (by omega), h k (by omega)⟩) (Or.inl ⟨rfl, rfl⟩)
  | succ d ih =>
    intro i fuel far hi hf h
    obtain ⟨fu, rfl⟩ : ∃ f, fuel = f + 1 := ⟨fuel - 1, by omega⟩
    rw [m_X6_levels_far_c3, if_neg (show ¬ (49 : Int32) ≤ nI i from nI_ge (a := i) (b := 49) (by omega) (by decide)), if_pos (okI_nI (by omega) (by decide)), nI_clamp (by omega), nI_1]
    refine ih (i + 1) fu _ (by omega) (by omega) (fun k hk => ?_)
    by_cases q : k = i
    · subst q; exact upd_at _ _ _
    · rw [upd_ne _ _ q]; exact h k (by omega)
theorem m_levF {n : Nat} (hn : 2 ≤ n ∧ n ≤ 7) {s0 s1 : Int64} {near : Nat → Int64} (hN : Near n near) {p p2 : Int32} {e : Int64} (he : m_X6_edge (nI n) p2 = some e) (hown : sub (m_X3_stonesOf s0 s1 p) (full n)) (hfr : sub (m_X3_free s0 s1 (full n)) (full n)) (far : Nat → Int32) : ∃ far', m_X6_levels_far (nI n) s0 s1 near far p p2 = some far' ∧ Lev n (Ly n e (m_X3_stonesOf s0 s1 p) (m_X3_free s0 s1 (full n))) far' :=
  levF_init hn hN he hown hfr 49 0 FU far (by omega) (FU_ge (by omega)) (fun k hk => absurd hk (by omega))
theorem levB_row {n : Nat} (hn : 2 ≤ n ∧ n ≤ 7) {s0 s1 : Int64} {near : Nat → Int64} (hN : Near n near) {p2 : Int32} {e own : Int64} (he : m_X6_edge (nI n) p2 = some e) (hown : sub own (full n)) (k50 : Int64 → Int64 → Int32 → Int64 → (Nat → Int32) → Option (Nat → Int32)) {T : Nat} (hT : T ≤ 60) (hfr : sub (m_X3_free s0 s1 (full n)) (full n)) : ∀ (d i fuel : Nat) (far far0 : Nat → Int32), i + d = n * n → d + 1 ≤ fuel → Rw n (Ly n e own (m_X3_free s0 s1 (full n))) T far0 → (∀ k, i ≤ k → far k = far0 k) → (∀ k, k < i → (∃ s, s < T + 1 ∧ tb (Ly n e own (m_X3_free s0 s1 (full n)) s) k = true ∧ (∀ r, r < s → tb (Ly n e own (m_X3_free s0 s1 (full n)) r) k = false) ∧ far k = nI s) ∨ ((∀ s, s < T + 1 → tb (Ly n e own (m_X3_free s0 s1 (full n)) s) k = false) ∧ far k = 100)) → ∃ far', m_X6_levels_back_c61 (nI n) s0 s1 near p2 k50 fuel own (Ly n e own (m_X3_free s0 s1 (full n)) T) (nI T) (nI i) far = k50 own (Ly n e own (m_X3_free s0 s1 (full n)) (T + 1)) (nI (T + 1)) (Ly n e own (m_X3_free s0 s1 (full n)) T) far' ∧ Rw n (Ly n e own (m_X3_free s0 s1 (full n))) (T + 1) far' := by
  have h49 := nn_lt hn
  intro d
  induction d with
  | zero =>
    intro i fuel far far0 hi hf hR h1 h2
    obtain ⟨fu, rfl⟩ : ∃ f, fuel = f + 1 := ⟨fuel - 1, by omega⟩
    have ei : i = n * n := by omega
    subst ei
    refine ⟨far, ?_, fun k hk => h2 k hk⟩
    have hL := Ly_sub (e := e) hfr hown T
    rw [m_X6_levels_back_c61, pk_mul, if_pos (nI_le (by omega) (by omega)), m_around hn hN hL, bs, he, bs, free_eq hn]
    have ec : (ar n (Ly n e own (m_X3_free s0 s1 (full n)) T) ||| e) = (e ||| ar n (Ly n e own (m_X3_free s0 s1 (full n)) T)) := by apply tb_ext; intro k _; rw [tb_or, tb_or, Bool.or_comm]
    have hW := W1_sub (e := e) hL hfr
    rw [ec, m_around hn hN (p := Ly n e own (m_X3_free s0 s1 (full n)) T ||| ((e ||| ar n (Ly n e own (m_X3_free s0 s1 (full n)) T)) &&& m_X3_free s0 s1 (full n))) hW, bs, m_reach hn hN hown, bs, nI_1]
    rw [show Ly n e own (m_X3_free s0 s1 (full n)) (T + 1) = _ from cl_wide hn hW hown]
    rfl
  | succ d ih =>
    intro i fuel far far0 hi hf hR h1 h2
    obtain ⟨fu, rfl⟩ : ∃ f, fuel = f + 1 := ⟨fuel - 1, by omega⟩
    have hin : i < n * n := by omega
    have hrow := hR i hin
    have go : ∀ v : Int32, ((∃ s, s < T + 1 ∧ tb (Ly n e own (m_X3_free s0 s1 (full n)) s) i = true ∧ (∀ r, r < s → tb (Ly n e own (m_X3_free s0 s1 (full n)) r) i = false) ∧ v = nI s) ∨ ((∀ s, s < T + 1 → tb (Ly n e own (m_X3_free s0 s1 (full n)) s) i = false) ∧ v = 100)) → ∃ far', m_X6_levels_back_c61 (nI n) s0 s1 near p2 k50 fu own (Ly n e own (m_X3_free s0 s1 (full n)) T) (nI T) (nI (i + 1)) (upd far i v) = k50 own (Ly n e own (m_X3_free s0 s1 (full n)) (T + 1)) (nI (T + 1)) (Ly n e own (m_X3_free s0 s1 (full n)) T) far' ∧ Rw n (Ly n e own (m_X3_free s0 s1 (full n))) (T + 1) far' := by
      intro v hv
      refine ih (i + 1) fu (upd far i v) far0 (by omega) (by omega) hR (fun k hk => ?_) (fun k hk => ?_)
      · rw [upd_ne far v (by omega)]; exact h1 k (by omega)
      · by_cases q : k = i
        · subst q; rw [upd_at]; exact hv
        · rw [upd_ne far v q]; exact h2 k (by omega)
    rw [m_X6_levels_back_c61, pk_mul, if_neg (nI_ge (a := i) (b := n * n) hin (by omega)), has_eq _ (by omega)]
    have old : m_X6_levels_back_c102 (m_X6_levels_back_c61 (nI n) s0 s1 near p2 k50 fu) own (Ly n e own (m_X3_free s0 s1 (full n)) T) (nI T) (nI i) (nI i) far = m_X6_levels_back_c61 (nI n) s0 s1 near p2 k50 fu own (Ly n e own (m_X3_free s0 s1 (full n)) T) (nI T) (nI (i + 1)) (upd far i (far i)) := by
      unfold m_X6_levels_back_c102 m_X6_levels_back_c106
      rw [if_pos (okI_nI (by omega) (by omega)), if_pos (okI_nI (by omega) (by omega)), nI_clamp (by omega), nI_1]
    have new : m_X6_levels_back_c106 (m_X6_levels_back_c61 (nI n) s0 s1 near p2 k50 fu) own (Ly n e own (m_X3_free s0 s1 (full n)) T) (nI T) (nI i) (nI T) (nI i) far = m_X6_levels_back_c61 (nI n) s0 s1 near p2 k50 fu own (Ly n e own (m_X3_free s0 s1 (full n)) T) (nI T) (nI (i + 1)) (upd far i (nI T)) := by
      unfold m_X6_levels_back_c106
      rw [if_pos (okI_nI (by omega) (by omega)), nI_clamp (by omega), nI_1]
    have n100 : ∀ s, s < T → ¬ nI s = (100 : Int32) := fun s hs q => by
      have := (nI_eq (a := s) (b := 100) (by omega) (by decide)).mp q
      omega
    by_cases hb : tb (Ly n e own (m_X3_free s0 s1 (full n)) T) i = true
    · rw [if_pos hb, if_neg one_nz, if_pos (okI_nI (by omega) (by omega)), nI_clamp (by omega), h1 i (Nat.le_refl i)]
      rcases hrow with ⟨s, hs, a1, a2, a3⟩ | ⟨a1, a2⟩
      · rw [if_neg (by rw [a3]; exact n100 s hs), old]
        refine go _ (Or.inl ⟨s, by omega, a1, a2, by rw [h1 i (Nat.le_refl i)]; exact a3⟩)
      · rw [if_pos a2, new]
        exact go _ (Or.inl ⟨T, by omega, hb, a1, rfl⟩)
    · have hb' : tb (Ly n e own (m_X3_free s0 s1 (full n)) T) i = false := by simpa using hb
      rw [if_neg hb, if_pos rfl, old]
      refine go _ ?_
      rw [h1 i (Nat.le_refl i)]
      rcases hrow with ⟨s, hs, a1, a2, a3⟩ | ⟨a1, a2⟩
      · exact Or.inl ⟨s, by omega, a1, a2, a3⟩
      · refine Or.inr ⟨fun s hs => ?_, a2⟩
        by_cases q : s = T
        · subst q; exact hb'
        · exact a1 s (by omega)
theorem levB_loop {n : Nat} (hn : 2 ≤ n ∧ n ≤ 7) {s0 s1 : Int64} {near : Nat → Int64} (hN : Near n near) {p2 : Int32} {e own : Int64} (he : m_X6_edge (nI n) p2 = some e) (hown : sub own (full n)) (hfr : sub (m_X3_free s0 s1 (full n)) (full n)) : ∀ (d T fuel : Nat) (had : Int64) (far : Nat → Int32), T + d = 51 → d + 1 ≤ fuel → Rw n (Ly n e own (m_X3_free s0 s1 (full n))) T far → ((T = 0 ∧ had = -1) ∨ ∃ S, T = S + 1 ∧ had = Ly n e own (m_X3_free s0 s1 (full n)) S ∧ S ≤ pc (Ly n e own (m_X3_free s0 s1 (full n)) S)) → ∃ far', m_X6_levels_back_c50 (nI n) s0 s1 near p2 fuel own (Ly n e own (m_X3_free s0 s1 (full n)) T) (nI T) had far = some far' ∧ Lev n (Ly n e own (m_X3_free s0 s1 (full n))) far' := by
  have h49 := nn_lt hn
  have stop : ∀ (S : Nat) (far : Nat → Int32), S ≤ 50 → S ≤ pc (Ly n e own (m_X3_free s0 s1 (full n)) S) → Ly n e own (m_X3_free s0 s1 (full n)) S = Ly n e own (m_X3_free s0 s1 (full n)) (S + 1) → Rw n (Ly n e own (m_X3_free s0 s1 (full n))) (S + 1) far → Lev n (Ly n e own (m_X3_free s0 s1 (full n))) far := by
    intro S far hS hp hq hR k hk
    have hpf := pc_mono (Ly_sub (e := e) hfr hown S)
    rw [pc_full hn] at hpf
    rcases hR k hk with ⟨s, hs, a1, a2, a3⟩ | ⟨a1, a2⟩
    · exact Or.inl ⟨s, by omega, a1, a2, a3⟩
    · refine Or.inr ⟨fun s => ?_, a2⟩
      by_cases q : s < S + 1
      · exact a1 s q
      · obtain ⟨z, rfl⟩ : ∃ z, s = S + z := ⟨s - S, by omega⟩
        rw [Ly_fix hq.symm z]
        exact a1 S (by omega)
  intro d
  induction d with
  | zero =>
    intro T fuel had far hT hf hR hh
    obtain ⟨fu, rfl⟩ : ∃ f, fuel = f + 1 := ⟨fuel - 1, by omega⟩
    rcases hh with ⟨h0, -⟩ | ⟨S, rfl, rfl, hp⟩
    · omega
    · exfalso
      have hpf := pc_mono (Ly_sub (e := e) hfr hown S)
      rw [pc_full hn] at hpf
      omega
  | succ d ih =>
    intro T fuel had far hT hf hR hh
    obtain ⟨fu, rfl⟩ : ∃ f, fuel = f + 1 := ⟨fuel - 1, by omega⟩
    rw [m_X6_levels_back_c50]
    by_cases q : had = Ly n e own (m_X3_free s0 s1 (full n)) T
    · rw [if_pos q]
      refine ⟨far, rfl, ?_⟩
      rcases hh with ⟨rfl, rfl⟩ | ⟨S, rfl, rfl, hp⟩
      · exfalso
        have := Ly_sub (e := e) hfr hown 0 63 (by rw [← q]; decide)
        rw [tb_full hn (by decide)] at this
        have := of_decide_eq_true this
        omega
      · exact stop S far (by omega) hp q hR
    · rw [if_neg q]
      obtain ⟨far', e1, hR'⟩ := levB_row hn hN he hown (m_X6_levels_back_c50 (nI n) s0 s1 near p2 fu) (T := T) (by omega) hfr (n * n) 0 FU far far (by omega) (FU_ge (by omega)) hR (fun _ _ => rfl) (fun k hk => absurd hk (by omega))
      rw [show (0 : Int32) = nI 0 from rfl, e1]
      refine ih (T + 1) fu _ far' (by omega) (by omega) hR' (Or.inr ⟨T, rfl, rfl, ?_⟩)
      rcases hh with ⟨rfl, rfl⟩ | ⟨S, rfl, rfl, hp⟩
      · exact Nat.zero_le _
      · have := pc_strict (Ly_succ (n := n) (e := e) (own := own) (fr := m_X3_free s0 s1 (full n)) S) q
        omega
theorem levB_init {n : Nat} (hn : 2 ≤ n ∧ n ≤ 7) {s0 s1 : Int64} {near : Nat → Int64} (hN : Near n near) {p p2 : Int32} {e : Int64} (he : m_X6_edge (nI n) p2 = some e) (hown : sub (m_X3_stonesOf s0 s1 p) (full n)) (hfr : sub (m_X3_free s0 s1 (full n)) (full n)) : ∀ (d i fuel : Nat) (far : Nat → Int32), i + d = 49 → d + 1 ≤ fuel → (∀ k, k < i → far k = 100) → ∃ far', m_X6_levels_back_c3 (nI n) s0 s1 near p p2 fuel (nI i) far = some far' ∧ Lev n (Ly n e (m_X3_stonesOf s0 s1 p) (m_X3_free s0 s1 (full n))) far' := by
  have h49 := nn_lt hn
  intro d
  induction d with
  | zero =>
    intro i fuel far hi hf h
    obtain ⟨fu, rfl⟩ : ∃ f, fuel = f + 1 := ⟨fuel - 1, by omega⟩
    have ei : i = 49 := by omega
    subst ei
    rw [m_X6_levels_back_c3, if_pos (by decide), he, bs, own_eq, m_reach hn hN hown, bs]
    exact levB_loop hn hN he hown hfr 51 0 FU (-1) far (by omega) (FU_ge (by omega)) (fun k hk => Or.inr ⟨fun s hs => absurd hs (by omega), h k (by omega)⟩) (Or.inl ⟨rfl, rfl⟩)
  | succ d ih =>
    intro i fuel far hi hf h
    obtain ⟨fu, rfl⟩ : ∃ f, fuel = f + 1 := ⟨fuel - 1, by omega⟩
    rw [m_X6_levels_back_c3, if_neg (show ¬ (49 : Int32) ≤ nI i from nI_ge (a := i) (b := 49) (by omega) (by decide)), if_pos (okI_nI (by omega) (by decide)), nI_clamp (by omega), nI_1]
    refine ih (i + 1) fu _ (by omega) (by omega) (fun k hk => ?_)
    by_cases q : k = i
    · subst q; exact upd_at _ _ _
    · rw [upd_ne _ _ q]; exact h k (by omega)
theorem m_levB {n : Nat} (hn : 2 ≤ n ∧ n ≤ 7) {s0 s1 : Int64} {near : Nat → Int64} (hN : Near n near) {p p2 : Int32} {e : Int64} (he : m_X6_edge (nI n) p2 = some e) (hown : sub (m_X3_stonesOf s0 s1 p) (full n)) (hfr : sub (m_X3_free s0 s1 (full n)) (full n)) (far : Nat → Int32) : ∃ far', m_X6_levels_back (nI n) s0 s1 near far p p2 = some far' ∧ Lev n (Ly n e (m_X3_stonesOf s0 s1 p) (m_X3_free s0 s1 (full n))) far' :=
  levB_init hn hN he hown hfr 49 0 FU far (by omega) (FU_ge (by omega)) (fun k hk => absurd hk (by omega))
/-! the distance -/
theorem m_edges {n : Nat} (hn : 2 ≤ n ∧ n ≤ 7) {p : Int32} (hp : p = 0 ∨ p = 1) : m_X6_edge (nI n) ((2 : Int32) * p) = some (edg n p) ∧ m_X6_edge (nI n) (((2 : Int32) * p) + (1 : Int32)) = some (edg2 n p) := by
  obtain ⟨h0, h1, h2, h3⟩ := m_edge hn
  rcases hp with rfl | rfl
  · exact ⟨h0, h1⟩
  · exact ⟨h2, h3⟩
/-- the rows as numbers -/
theorem Lev_nat {n : Nat} {L : Nat → Int64} {far : Nat → Int32} (h : Lev n L far) : ∃ F : Nat → Nat, ∀ k, k < n * n → far k = nI (F k) ∧ ((F k ≤ 49 ∧ tb (L (F k)) k = true ∧ ∀ r, r < F k → tb (L r) k = false) ∨ (F k = 100 ∧ ∀ s, tb (L s) k = false)) := by
  refine ⟨fun k => (far k).toNatClampNeg, fun k hk => ?_⟩
  rcases h k hk with ⟨s, h1, h2, h3, h4⟩ | ⟨h1, h2⟩
  · have e : (far k).toNatClampNeg = s := by rw [h4, nI_clamp (by omega)]
    show far k = nI (far k).toNatClampNeg ∧ (((far k).toNatClampNeg ≤ 49 ∧ tb (L (far k).toNatClampNeg) k = true ∧ ∀ r, r < (far k).toNatClampNeg → tb (L r) k = false) ∨ ((far k).toNatClampNeg = 100 ∧ ∀ s, tb (L s) k = false))
    rw [e]
    exact ⟨h4, Or.inl ⟨h1, h2, h3⟩⟩
  · have e : (far k).toNatClampNeg = 100 := by rw [h2]; decide
    show far k = nI (far k).toNatClampNeg ∧ (((far k).toNatClampNeg ≤ 49 ∧ tb (L (far k).toNatClampNeg) k = true ∧ ∀ r, r < (far k).toNatClampNeg → tb (L r) k = false) ∨ ((far k).toNatClampNeg = 100 ∧ ∀ s, tb (L s) k = false))
    rw [e]
    exact ⟨h2, Or.inr ⟨rfl, h1⟩⟩
theorem dist_loop {n : Nat} (hn : 2 ≤ n ∧ n ≤ 7) {goal : Int64} {far : Nat → Int32} {F : Nat → Nat} (hF : ∀ k, k < n * n → far k = nI (F k) ∧ F k ≤ 100) : ∀ (d i fuel b : Nat), i + d = n * n → d + 1 ≤ fuel → b ≤ 100 → (∀ k, k < i → tb goal k = true → b ≤ F k) → (b = 100 ∨ ∃ k, k < n * n ∧ tb goal k = true ∧ F k = b) → ∃ b', m_X6_distanceOf_c29 (nI n) fuel goal (nI b) (nI i) far = some (if b' = 100 then -15 else nI b', far) ∧ b' ≤ 100 ∧ (∀ k, k < n * n → tb goal k = true → b' ≤ F k) ∧ (b' = 100 ∨ ∃ k, k < n * n ∧ tb goal k = true ∧ F k = b') := by
  have h49 := nn_lt hn
  intro d
  induction d with
  | zero =>
    intro i fuel b hi hf hb h1 h2
    obtain ⟨fu, rfl⟩ : ∃ f, fuel = f + 1 := ⟨fuel - 1, by omega⟩
    have ei : i = n * n := by omega
    subst ei
    refine ⟨b, ?_, hb, h1, h2⟩
    rw [m_X6_distanceOf_c29, pk_mul, if_pos (nI_le (by omega) (by omega))]
    by_cases q : b = 100
    · rw [if_pos (by rw [q]; rfl), if_pos q]
    · rw [if_neg (show ¬ nI b = (100 : Int32) from fun z => q ((nI_eq (a := b) (b := 100) (by omega) (by decide)).mp z)), if_neg q]
  | succ d ih =>
    intro i fuel b hi hf hb h1 h2
    obtain ⟨fu, rfl⟩ : ∃ f, fuel = f + 1 := ⟨fuel - 1, by omega⟩
    have hin : i < n * n := by omega
    obtain ⟨hFi, hFb⟩ := hF i hin
    rw [m_X6_distanceOf_c29, pk_mul, if_neg (nI_ge (a := i) (b := n * n) hin (by omega)), has_eq _ (by omega)]
    have same : (tb goal i = true → b ≤ F i) → ∃ b', m_X6_distanceOf_c74 (m_X6_distanceOf_c29 (nI n) fu) goal (nI b) (nI i) far = some (if b' = 100 then -15 else nI b', far) ∧ b' ≤ 100 ∧ (∀ k, k < n * n → tb goal k = true → b' ≤ F k) ∧ (b' = 100 ∨ ∃ k, k < n * n ∧ tb goal k = true ∧ F k = b') := by
      intro hq
      unfold m_X6_distanceOf_c74 m_X6_distanceOf_c76
      rw [nI_1]
      refine ih (i + 1) fu b (by omega) (by omega) hb (fun k hk hg => ?_) h2
      by_cases q : k = i
      · subst q; exact hq hg
      · exact h1 k (by omega) hg
    by_cases hg : tb goal i = true
    · rw [if_pos hg, if_neg one_nz, if_pos (okI_nI (by omega) (by decide)), if_pos (okI_nI (by omega) (by decide)), nI_clamp (by omega), hFi]
      by_cases q : b ≤ F i
      · rw [if_pos (nI_le q (by omega))]
        exact same (fun _ => q)
      · rw [if_neg (nI_ge (a := F i) (b := b) (by omega) (by omega))]
        unfold m_X6_distanceOf_c76
        rw [nI_1]
        refine ih (i + 1) fu (F i) (by omega) (by omega) hFb (fun k hk hgk => ?_) (Or.inr ⟨i, hin, hg, rfl⟩)
        by_cases z : k = i
        · subst z; exact Nat.le_refl _
        · have := h1 k (by omega) hgk
          omega
    · rw [if_neg hg, if_pos rfl]
      exact same (fun z => absurd z hg)
theorem m_distanceOf {n : Nat} (hn : 2 ≤ n ∧ n ≤ 7) {s0 s1 : Int64} {near : Nat → Int64} (hN : Near n near) {p : Int32} (hp : p = 0 ∨ p = 1) (hown : sub (m_X3_stonesOf s0 s1 p) (full n)) (hfr : sub (m_X3_free s0 s1 (full n)) (full n)) (far : Nat → Int32) : ∃ o, m_X6_distanceOf (nI n) s0 s1 near far p = some o ∧ Lev n (Ly n (edg n p) (m_X3_stonesOf s0 s1 p) (m_X3_free s0 s1 (full n))) o.2 ∧ ((o.1 = -15 ∧ ∀ t, Ly n (edg n p) (m_X3_stonesOf s0 s1 p) (m_X3_free s0 s1 (full n)) t &&& edg2 n p = 0) ∨ ∃ d, d ≤ 49 ∧ o.1 = nI d ∧ Fst (Ly n (edg n p) (m_X3_stonesOf s0 s1 p) (m_X3_free s0 s1 (full n))) (edg2 n p) d) := by
  have h49 := nn_lt hn
  obtain ⟨e1, e2⟩ := m_edges hn hp
  obtain ⟨far', hl, hL⟩ := m_levF hn hN e1 hown hfr far
  obtain ⟨F, hF⟩ := Lev_nat hL
  obtain ⟨b, c1, c2, c3, c4⟩ := dist_loop hn (goal := edg2 n p) (F := F) (far := far') (fun k hk => ⟨(hF k hk).1, by rcases (hF k hk).2 with ⟨q, -⟩ | ⟨q, -⟩ <;> omega⟩) (n * n) 0 FU 100 (by omega) (FU_ge (by omega)) (by omega) (fun k hk => absurd hk (by omega)) (Or.inl rfl)
  refine ⟨(if b = 100 then -15 else nI b, far'), ?_, hL, ?_⟩
  · unfold m_X6_distanceOf
    rw [hl, bs, e2, bs]
    exact c1
  · have hin : ∀ t k, tb (Ly n (edg n p) (m_X3_stonesOf s0 s1 p) (m_X3_free s0 s1 (full n)) t) k = true → k < n * n := fun t k h => (sub_full hn).mp (Ly_sub hfr hown t) k h
    by_cases q : b = 100
    · left
      refine ⟨if_pos q, fun t => ?_⟩
      rw [and_eq_zero]
      intro k h1 h2
      have hk := hin t k h1
      have := c3 k hk h2
      rcases (hF k hk).2 with ⟨z, -⟩ | ⟨-, z⟩
      · omega
      · rw [z t] at h1; cases h1
    · right
      rcases c4 with c4 | ⟨k, hk, hg, hb⟩
      · exact absurd c4 q
      · rcases (hF k hk).2 with ⟨z1, z2, z3⟩ | ⟨z, -⟩
        · refine ⟨b, by omega, if_neg q, ?_, fun s hs => ?_⟩
          · rw [hb] at z2
            intro z
            rw [and_eq_zero] at z
            exact z k z2 hg
          · rw [and_eq_zero]
            intro j h1 h2
            have hj := hin s j h1
            have := c3 j hj h2
            rcases (hF j hj).2 with ⟨y1, y2, y3⟩ | ⟨y1, y2⟩
            · rw [y3 s (by omega)] at h1; cases h1
            · rw [y2 s] at h1; cases h1
        · omega
theorem Fst_uniq {L : Nat → Int64} {g : Int64} {a b : Nat} (h1 : Fst L g a) (h2 : Fst L g b) : a = b := by
  rcases Nat.lt_trichotomy a b with h | h | h
  · exact absurd (h2.2 a h) h1.1
  · exact h
  · exact absurd (h1.2 b h) h2.1
theorem free_sub {n : Nat} (hn : 2 ≤ n ∧ n ≤ 7) (s0 s1 : Int64) : sub (m_X3_free s0 s1 (full n)) (full n) := by
  unfold m_X3_free
  exact sub_trans (and_sub_l _ _) (and_sub_l _ _)
theorem own_sub {n : Nat} {s0 s1 : Int64} (h0 : sub s0 (full n)) (h1 : sub s1 (full n)) (p : Int32) : sub (m_X3_stonesOf s0 s1 p) (full n) := by
  unfold m_X3_stonesOf
  by_cases h : p = 0
  · rw [if_pos h]; exact h0
  · rw [if_neg h]; exact h1
theorem dist_eq {n : Nat} (hn : 2 ≤ n ∧ n ≤ 7) {s0 s1 : Int64} {near : Nat → Int64} (hN : Near n near) {p : Int32} (hp : p = 0 ∨ p = 1) (h0 : sub s0 (full n)) (h1 : sub s1 (full n)) (layers : Nat → Int64) (far : Nat → Int32) : ∃ ox oy, m_X4_measure layers s0 s1 (B_size (bdn n)) (B_cells (bdn n)) (B_all (bdn n)) (B_upper (bdn n)) (B_lower (bdn n)) (B_left (bdn n)) (B_right (bdn n)) p = some ox ∧ m_X6_distanceOf (nI n) s0 s1 near far p = some oy ∧ ox.1 = oy.1 ∧ Lev n (Ly n (edg n p) (m_X3_stonesOf s0 s1 p) (m_X3_free s0 s1 (full n))) oy.2 ∧ (ox.1 = -15 ∨ ∃ d, d ≤ 49 ∧ ox.1 = nI d ∧ Fst (Ly n (edg n p) (m_X3_stonesOf s0 s1 p) (m_X3_free s0 s1 (full n))) (edg2 n p) d ∧ ∀ j, j ≤ d → ox.2 j = Ly n (edg n p) (m_X3_stonesOf s0 s1 p) (m_X3_free s0 s1 (full n)) j) := by
  obtain ⟨ox, e1, hx⟩ := x_measure hn p (free_sub hn s0 s1) (own_sub h0 h1 p) layers
  obtain ⟨oy, e2, hL, hy⟩ := m_distanceOf hn hN hp (own_sub h0 h1 p) (free_sub hn s0 s1) far
  refine ⟨ox, oy, e1, e2, ?_, hL, ?_⟩
  · rcases hx with ⟨a, b⟩ | ⟨d, a, b, c, -⟩
    · rcases hy with ⟨a', -⟩ | ⟨d', a', b', c'⟩
      · rw [a, a']
      · exact absurd (b d') c'.1
    · rcases hy with ⟨a', b'⟩ | ⟨d', a', b', c'⟩
      · exact absurd (b' d) c.1
      · rw [b, b', Fst_uniq c c']
  · rcases hx with ⟨a, b⟩ | h
    · exact Or.inl a
    · exact Or.inr h
theorem s_distance : S_distance InvR := by
  rintro x b y t0 t1 ⟨n, m, K, hn, rfl, ⟨g1, g2, g3, g4, g5, g6, g7, g8, g9, g10, g11, g12⟩, hN, hR⟩ p1
  obtain ⟨q1, q2, q3, -⟩ := st_ok hn g7 m g6
  unfold m_X5_distance m_X6_distance
  rcases player_cases p1 with ⟨a, b⟩ | ⟨a, b, c⟩ <;> rw [a, b]
  · exact ⟨_, _, rfl, rfl, rfl, n, m, K, hn, rfl, ⟨g1, g2, g3, g4, g5, g6, g7, g8, g9, g10, g11, g12⟩, hN, hR⟩
  · obtain ⟨ox, oy, e1, e2, e3, -⟩ := dist_eq hn hN c q1 q2 (X_o_paths_layers x) (Y_o_far y)
    rw [if_neg one_nz, if_neg one_nz, g1, g9, g10, g11, g12, e1, e2]
    exact ⟨_, _, rfl, rfl, e3, n, m, K, hn, rfl, ⟨rfl, g2, g3, g4, g5, g6, g7, g8, rfl, rfl, rfl, rfl⟩, hN, hR⟩
theorem s_cut : S_cut InvR := by
  rintro x b y t0 t1 ⟨n, m, K, hn, rfl, ⟨g1, g2, g3, g4, g5, g6, g7, g8, g9, g10, g11, g12⟩, hN, hR⟩ p1
  obtain ⟨q1, q2, q3, -⟩ := st_ok hn g7 m g6
  unfold m_X5_cut m_X6_cut
  rcases player_cases p1 with ⟨a, b⟩ | ⟨a, b, c⟩ <;> rw [a, b]
  · exact ⟨_, _, rfl, rfl, rfl, n, m, K, hn, rfl, ⟨g1, g2, g3, g4, g5, g6, g7, g8, g9, g10, g11, g12⟩, hN, hR⟩
  · have c' : (1 : Int32) - p1 = 0 ∨ (1 : Int32) - p1 = 1 := by
      rcases c with rfl | rfl
      · exact Or.inr rfl
      · exact Or.inl rfl
    obtain ⟨ox, oy, e1, e2, e3, -⟩ := dist_eq hn hN c' q1 q2 (X_o_paths_layers x) (Y_o_far y)
    rw [if_neg one_nz, if_neg one_nz, g1, g9, g10, g11, g12, e1, e2]
    exact ⟨_, _, rfl, rfl, e3, n, m, K, hn, rfl, ⟨rfl, g2, g3, g4, g5, g6, g7, g8, rfl, rfl, rfl, rfl⟩, hN, hR⟩

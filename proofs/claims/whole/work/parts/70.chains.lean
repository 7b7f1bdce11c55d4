/-! chains of a player -/
def Cld (n : Nat) (r own : Int64) : Prop := sub r own ∧ ∀ i j, tb r i = true → adj n i j = true → tb own j = true → tb r j = true
theorem cl_mono {n : Nat} (hn : 2 ≤ n ∧ n ≤ 7) {s w v : Int64} (hw : sub w (full n)) (hv : sub v (full n)) (h : sub w v) : sub (cl n s w) (cl n s v) := by
  refine cl_least hn hw (S := fun k => tb (cl n s v) k = true) (fun i j hi ha hj => cl_closed hn hv hi ha (h j hj)) (fun k h1 h2 => ?_)
  exact cl_seed n s v k (by rw [tb_and, h1, h k h2]; rfl)
theorem cl_cld {n : Nat} (hn : 2 ≤ n ∧ n ≤ 7) {s r own : Int64} (hown : sub own (full n)) (hc : Cld n r own) (hs : ∀ k, tb s k = true → tb own k = true → tb r k = true) : cl n s r = cl n s own := by
  have hr : sub r (full n) := sub_trans hc.1 hown
  refine sub_antisymm (cl_mono hn hr hown hc.1) ?_
  refine cl_least hn hown (S := fun k => tb (cl n s r) k = true) (fun i j hi ha hj => ?_) (fun k h1 h2 => ?_)
  · exact cl_closed hn hr hi ha (hc.2 i j (cl_sub n s r i hi) ha hj)
  · exact cl_seed n s r k (by rw [tb_and, h1, hs k h1 h2]; rfl)
theorem cld_minus {n : Nat} (hn : 2 ≤ n ∧ n ≤ 7) {s r own : Int64} (hown : sub own (full n)) (hc : Cld n r own) : Cld n (r &&& (cl n s r ^^^ (-1))) own := by
  have hr : sub r (full n) := sub_trans hc.1 hown
  refine ⟨sub_trans (and_sub_l _ _) hc.1, fun i j hi ha hj => ?_⟩
  rw [tb_and, Bool.and_eq_true, tb_not _ (tb_lt64 hj)]
  rw [tb_and, Bool.and_eq_true, tb_not _ (by have := (adj_lt ha).1; have := nn_lt hn; omega)] at hi
  have h1 := hc.2 i j hi.1 ha hj
  refine ⟨h1, ?_⟩
  cases hx : tb (cl n s r) j
  · rfl
  · have := cl_closed hn hr hx (by rw [adj_symm hn]; exact ha) hi.1
    rw [this] at hi
    exact absurd hi.2 (by decide)
theorem pc_minus {n : Nat} {r : Int64} {l : Nat} (h : low r l) (hn : 2 ≤ n ∧ n ≤ 7) : pc (r &&& (cl n (jshl 1 (nI l)) r ^^^ (-1))) < pc r := by
  refine pcb_strict (and_sub_l _ _) (k := l) h.1 h.2.1 ?_
  have : tb (cl n (jshl 1 (nI l)) r) l = true := cl_seed n _ r l (by rw [tb_and, h.2.1, tb_one h.1 h.1]; simp)
  rw [tb_and, tb_not _ h.1, this]
  simp
theorem chains_loop {n : Nat} (hn : 2 ≤ n ∧ n ≤ 7) {near : Nat → Int64} (hN : Near n near) {s0 s1 own : Int64} (h0 : sub s0 (full n)) (h1 : sub s1 (full n)) (hown : own = s0 ∨ (own = s1 ∧ ∀ k, tb s0 k = true → tb s1 k = false)) : ∀ (d i fuel : Nat) (r : Int64), Cld n r own → pc r ≤ d → i + d = 49 → d + 1 ≤ fuel → ∃ o, m_X5_chains_c25 (B_size (bdn n)) (B_cells (bdn n)) (B_all (bdn n)) (B_left (bdn n)) (B_right (bdn n)) fuel r (nI i) (nI i) = some o ∧ m_X6_chains_c18 (nI n) s0 s1 near fuel (nI i) r = some o := by
  have hof : sub own (full n) := by
    rcases hown with rfl | ⟨rfl, -⟩
    · exact h0
    · exact h1
  have pk0 : ∀ {x : Int64}, pc x ≤ 0 → x = 0 := fun {x} h => by
    rcases Classical.em (x = 0) with e | e
    · exact e
    · have := pc_pos e; omega
  intro d
  induction d with
  | zero =>
    intro i fuel r hc hp hi hf
    obtain ⟨fu, rfl⟩ : ∃ f, fuel = f + 1 := ⟨fuel - 1, by omega⟩
    have e := pk0 hp
    subst e
    have e : i = 49 := by omega
    subst e
    refine ⟨nI 49, ?_, ?_⟩
    · rw [m_X5_chains_c25, if_pos (by decide)]
    · rw [m_X6_chains_c18, if_pos rfl]
  | succ d ih =>
    intro i fuel r hc hp hi hf
    obtain ⟨fu, rfl⟩ : ∃ f, fuel = f + 1 := ⟨fuel - 1, by omega⟩
    rw [m_X5_chains_c25, m_X6_chains_c18, if_neg (show ¬ (49 : Int32) ≤ nI i from nI_ge (a := i) (b := 49) (by omega) (by decide))]
    by_cases e : r = 0
    · rw [if_pos e, if_pos e]
      exact ⟨_, rfl, rfl⟩
    · rw [if_neg e, if_neg e]
      obtain ⟨l, hl⟩ := low_ex e
      have hln : l < n * n := (sub_full hn).mp (sub_trans hc.1 hof) l hl.2.1
      rw [low_iso hl, x_flood hn (sub_trans hc.1 hof), m_lowest hl, bs, bs, m_chainWith hn hN h0 h1 hln, bs]
      have ew : (if tb s0 l = true then s0 else s1) = own := by
        have hlo := hc.1 l hl.2.1
        rcases hown with rfl | ⟨rfl, hd⟩
        · rw [if_pos hlo]
        · by_cases q : tb s0 l = true
          · rw [hd l q] at hlo; cases hlo
          · rw [if_neg q]
      rw [ew, ← cl_cld hn hof hc (s := jshl 1 (nI l)) (fun k h1 _ => by
        rw [tb_one hl.1 (tb_lt64 h1)] at h1
        rw [of_decide_eq_true h1]; exact hl.2.1), nI_1]
      exact ih (i + 1) fu _ (cld_minus hn hof hc) (by have := pc_minus hl hn; omega) (by omega) (by omega)
theorem chains_eq {n : Nat} (hn : 2 ≤ n ∧ n ≤ 7) {near : Nat → Int64} (hN : Near n near) {s0 s1 : Int64} (h0 : sub s0 (full n)) (h1 : sub s1 (full n)) (hd : ∀ k, tb s0 k = true → tb s1 k = false) (p : Int32) : ∃ o, m_X5_chains s0 s1 (B_size (bdn n)) (B_cells (bdn n)) (B_all (bdn n)) (B_left (bdn n)) (B_right (bdn n)) p = some o ∧ m_X6_chains (nI n) s0 s1 near p = some o := by
  unfold m_X5_chains m_X6_chains
  have hself : ∀ w : Int64, Cld n w w := fun w => ⟨sub_refl w, fun i j _ _ h => h⟩
  have h49 := nn_lt hn
  rcases player_cases p with ⟨a, b⟩ | ⟨a, b, c⟩ <;> rw [a, b]
  · exact ⟨_, rfl, rfl⟩
  · rw [if_neg one_nz, if_neg one_nz]
    rcases c with rfl | rfl
    · exact chains_loop hn hN h0 h1 (own := s0) (Or.inl rfl) 49 0 FU s0 (hself s0) (by have := pc_mono h0; rw [pc_full hn] at this; omega) (by omega) (FU_ge (by omega))
    · exact chains_loop hn hN h0 h1 (own := s1) (Or.inr ⟨rfl, hd⟩) 49 0 FU s1 (hself s1) (by have := pc_mono h1; rw [pc_full hn] at this; omega) (by omega) (FU_ge (by omega))
theorem s_chains : S_chains InvR := by
  rintro x b y t0 t1 ⟨n, m, K, hn, rfl, ⟨g1, g2, g3, g4, g5, g6, g7, g8, g9, g10, g11, g12⟩, hN, -⟩ p1
  obtain ⟨q1, q2, q3, -⟩ := st_ok hn g7 m g6
  obtain ⟨o, e1, e2⟩ := chains_eq hn hN q1 q2 q3 p1
  rw [g1, g9, g10, g11, g12]
  exact ⟨o, o, e1, e2, rfl⟩

/-! bridges -/
def isB (n : Nat) (own fr : Int64) (a b : Nat) : Bool := tb own a && tb own b && !adj n a b && decide (pc (nb n a &&& nb n b) = 2) && decide ((nb n a &&& nb n b) &&& (fr ^^^ (-1)) = 0)
def inn (n : Nat) (own fr : Int64) (a : Nat) : Nat → List Nat
  | 0 => []
  | d + 1 => if isB n own fr a (n * n - (d + 1)) = true then (a * 64 + (n * n - (d + 1))) :: inn n own fr a d else inn n own fr a d
def out (n : Nat) (own fr : Int64) : Nat → List Nat
  | 0 => []
  | d + 1 => inn n own fr (n * n - (d + 1)) d ++ out n own fr d
theorem isB_ones {n : Nat} {own fr : Int64} {a b : Nat} (h : isB n own fr a b = true) : isB n (-1) (-1) a b = true := by
  unfold isB at h ⊢
  simp only [Bool.and_eq_true] at h ⊢
  obtain ⟨⟨⟨⟨h1, h2⟩, h3⟩, h4⟩, h5⟩ := h
  refine ⟨⟨⟨⟨tb_ones (tb_lt64 h1), tb_ones (tb_lt64 h2)⟩, h3⟩, h4⟩, ?_⟩
  rw [show (-1 : Int64) ^^^ (-1) = 0 by decide, and_zero]
  rfl
theorem inn_le (n : Nat) (own fr : Int64) (a : Nat) : ∀ d, (inn n own fr a d).length ≤ (inn n (-1) (-1) a d).length
  | 0 => Nat.le_refl _
  | d + 1 => by
    have := inn_le n own fr a d
    unfold inn
    by_cases h : isB n own fr a (n * n - (d + 1)) = true
    · rw [if_pos h, if_pos (isB_ones h), List.length_cons, List.length_cons]; omega
    · rw [if_neg h]
      split
      · rw [List.length_cons]; omega
      · exact this
theorem out_le (n : Nat) (own fr : Int64) : ∀ d, (out n own fr d).length ≤ (out n (-1) (-1) d).length
  | 0 => Nat.le_refl _
  | d + 1 => by
    have h1 := out_le n own fr d
    have h2 := inn_le n own fr (n * n - (d + 1)) d
    unfold out
    rw [List.length_append, List.length_append]
    omega
theorem out_147 {n : Nat} (hn : 2 ≤ n ∧ n ≤ 7) (own fr : Int64) : (out n own fr (n * n)).length ≤ 147 := by
  have h := out_le n own fr (n * n)
  have k : (out n (-1) (-1) (n * n)).length ≤ 147 := n27 (P := fun n => (out n (-1) (-1) (n * n)).length ≤ 147) (by decide +kernel) (by decide +kernel) (by decide +kernel) (by decide +kernel) (by decide +kernel) (by decide +kernel) hn
  omega
/-- what a row of numbers holds -/
def Sto (l : List Nat) (f : Nat → Int32) : Prop := ∀ i x, l[i]? = some x → f i = nI x
theorem Sto_add {l : List Nat} {f : Nat → Int32} (h : Sto l f) (x : Nat) : Sto (l ++ [x]) (upd f l.length (nI x)) := by
  intro i y hy
  rw [List.getElem?_append] at hy
  by_cases q : i < l.length
  · rw [if_pos q] at hy
    rw [upd_ne _ _ (by omega)]
    exact h i y hy
  · rw [if_neg q] at hy
    by_cases z : i = l.length
    · subst z
      rw [Nat.sub_self] at hy
      have : x = y := by simpa using hy
      rw [upd_at, this]
    · obtain ⟨k, hk⟩ : ∃ k, i - l.length = k + 1 := ⟨i - l.length - 1, by omega⟩
      rw [hk] at hy
      simp at hy
theorem car_code {n : Nat} (hn : 2 ≤ n ∧ n ≤ 7) {a b : Nat} (ha : a < 64) (hb : b < 64) : m_X5_carrierOf (B_size (bdn n)) (B_all (bdn n)) (B_left (bdn n)) (B_right (bdn n)) (nI (a * 64 + b)) = nb n a &&& nb n b ∧ jiushr (nI (a * 64 + b)) 6 = nI a ∧ nI (a * 64 + b) &&& (63 : Int32) = nI b := by
  have e1 : jiushr (nI (a * 64 + b)) 6 = nI a := by
    have := pk_ushrN (n := a * 64 + b) (by omega) (6 : Int32) 6 (by decide)
    have e : (a * 64 + b) / 2 ^ 6 = a := by omega
    rw [e] at this
    exact this
  have e2 : nI (a * 64 + b) &&& (63 : Int32) = nI b := by
    have := pk_andN (n := a * 64 + b) (by omega) (m := 63) 6 (by decide)
    have e : (a * 64 + b) % 2 ^ 6 = b := by omega
    rw [e] at this
    exact this
  refine ⟨?_, e1, e2⟩
  unfold m_X5_carrierOf
  rw [e1, e2]
  rfl
theorem neg_shl : ∀ a, a < 63 → ∀ k, k < 64 → tb (-(jshl (jshl 1 (nI a)) 1)) k = decide (a < k) := by decide +kernel
/-- the higher partners of a stone -/
theorem tb_part {n : Nat} (hn : 2 ≤ n ∧ n ≤ 7) {own : Int64} (hown : sub own (full n)) {a b : Nat} (ha : a < n * n) : tb (m_X5_bridgePartners (B_size (bdn n)) (B_all (bdn n)) (B_left (bdn n)) (B_right (bdn n)) (own &&& jshl 1 (nI a)) own) b = true ↔ tb own a = true ∧ tb own b = true ∧ a < b ∧ adj n a b = false ∧ ∃ i, adj n a i = true ∧ adj n i b = true := by
  have h49 := nn_lt hn
  unfold m_X5_bridgePartners
  by_cases hoa : tb own a = true
  · have e : own &&& jshl 1 (nI a) = jshl 1 (nI a) := by
      apply tb_ext
      intro k hk
      rw [tb_and, tb_one (by omega) hk]
      by_cases q : k = a
      · subst q; rw [hoa]; rfl
      · simp [q]
    rw [e]
    show tb (((own &&& -(jshl (jshl 1 (nI a)) 1)) &&& ar n (nb n a)) &&& (nb n a ^^^ (-1))) b = true ↔ _
    by_cases hb : b < 64
    · rw [tb_and, tb_and, tb_and, neg_shl a (by omega) b hb, tb_not _ hb, tb_nb hn ha]
      have hnb : sub (nb n a) (full n) := ar_sub hn (sub_bit hn ha)
      simp only [Bool.and_eq_true, decide_eq_true_eq, Bool.not_eq_true', ar_iff hn hnb b, tb_nb hn ha]
      constructor
      · rintro ⟨⟨⟨h1, h2⟩, i, h3, h4⟩, h5⟩
        exact ⟨hoa, h1, h2, h5, i, h4, h3⟩
      · rintro ⟨-, h1, h2, h5, i, h4, h3⟩
        exact ⟨⟨⟨h1, h2⟩, i, h3, h4⟩, h5⟩
    · rw [tb_ge _ (by omega)]
      constructor
      · intro h; cases h
      · rintro ⟨-, h, -⟩; exact absurd (tb_lt64 h) hb
  · have e : own &&& jshl 1 (nI a) = 0 := by
      rw [and_eq_zero]
      intro k h1 h2
      rw [tb_one (by omega) (tb_lt64 h2)] at h2
      rw [of_decide_eq_true h2] at h1
      exact hoa h1
    rw [e]
    show tb (((own &&& -(jshl 0 1)) &&& ar n (ar n 0)) &&& (ar n 0 ^^^ (-1))) b = true ↔ _
    rw [ar_zero hn, ar_zero hn, and_zero, zero_and, tb_zero]
    constructor
    · intro h; cases h
    · rintro ⟨h, -⟩; exact absurd h hoa
theorem isB_part {n : Nat} (hn : 2 ≤ n ∧ n ≤ 7) {own fr : Int64} (hown : sub own (full n)) {a b : Nat} (hab : a < b) (h : isB n own fr a b = true) : tb (m_X5_bridgePartners (B_size (bdn n)) (B_all (bdn n)) (B_left (bdn n)) (B_right (bdn n)) (own &&& jshl 1 (nI a)) own) b = true := by
  unfold isB at h
  simp only [Bool.and_eq_true, Bool.not_eq_true', decide_eq_true_eq] at h
  obtain ⟨⟨⟨⟨h1, h2⟩, h3⟩, h4⟩, h5⟩ := h
  have ha := (sub_full hn).mp hown a h1
  have hb := (sub_full hn).mp hown b h2
  rw [tb_part hn hown ha]
  refine ⟨h1, h2, hab, h3, ?_⟩
  have hne : ¬ nb n a &&& nb n b = 0 := fun e => by rw [e, pc_zero] at h4; omega
  obtain ⟨i, -, hi⟩ := ne_zero_iff.mp hne
  rw [tb_and, Bool.and_eq_true, tb_nb hn ha, tb_nb hn hb] at hi
  exact ⟨i, hi.1, by rw [adj_symm hn]; exact hi.2⟩
theorem find_inn {n : Nat} (hn : 2 ≤ n ∧ n ≤ 7) {own fr : Int64} (hown : sub own (full n)) {a : Nat} (ha : a < n * n) (k15 : Int32 → Int32 → (Nat → Int32) → Option (Int32 × (Nat → Int32))) : ∀ (d fuel it : Nat) (v : Int64) (l : List Nat) (f : Nat → Int32), a < n * n - d → d ≤ n * n → (∀ k, tb v k = true ↔ tb (m_X5_bridgePartners (B_size (bdn n)) (B_all (bdn n)) (B_left (bdn n)) (B_right (bdn n)) (own &&& jshl 1 (nI a)) own) k = true ∧ n * n - d ≤ k) → d + 1 ≤ fuel → it + d ≤ 49 → Sto l f → (l ++ inn n own fr a d).length ≤ 147 → ∃ f', m_X5_findBridges_c41 (B_size (bdn n)) (B_all (bdn n)) (B_left (bdn n)) (B_right (bdn n)) fr k15 fuel (nI l.length) (nI a) v (nI it) f = k15 (nI (l ++ inn n own fr a d).length) (nI (a + 1)) f' ∧ Sto (l ++ inn n own fr a d) f' := by
  have h49 := nn_lt hn
  intro d
  induction d with
  | zero =>
    intro fuel it v l f had hd hv hf hit hS hl
    obtain ⟨fu, rfl⟩ : ∃ f, fuel = f + 1 := ⟨fuel - 1, by omega⟩
    have e : v = 0 := by
      rw [eq_zero_iff]
      intro k
      cases q : tb v k
      · rfl
      · have h1 := (hv k).mp q
        have h2 := ((tb_part hn hown ha).mp h1.1).2.1
        have := (sub_full hn).mp hown k h2
        omega
    refine ⟨f, ?_, by rw [inn, List.append_nil]; exact hS⟩
    rw [m_X5_findBridges_c41, inn, List.append_nil]
    by_cases q : (49 : Int32) ≤ nI it
    · rw [if_pos q]
      unfold m_X5_findBridges_c133
      rw [nI_1]
    · rw [if_neg q, if_pos e]
      unfold m_X5_findBridges_c133
      rw [nI_1]
  | succ d ih =>
    intro fuel it v l f had hd hv hf hit hS hl
    by_cases hb : tb (m_X5_bridgePartners (B_size (bdn n)) (B_all (bdn n)) (B_left (bdn n)) (B_right (bdn n)) (own &&& jshl 1 (nI a)) own) (n * n - (d + 1)) = true
    · obtain ⟨fu, rfl⟩ : ∃ f, fuel = f + 1 := ⟨fuel - 1, by omega⟩
      have hlow : low v (n * n - (d + 1)) := by
        refine ⟨by omega, (hv _).mpr ⟨hb, Nat.le_refl _⟩, fun k hk => ?_⟩
        cases q : tb v k
        · rfl
        · have := ((hv k).mp q).2
          omega
      have hne : ¬ v = 0 := tb_ne hlow.2.1
      have hv' : ∀ k, tb (v &&& (v - 1)) k = true ↔ tb (m_X5_bridgePartners (B_size (bdn n)) (B_all (bdn n)) (B_left (bdn n)) (B_right (bdn n)) (own &&& jshl 1 (nI a)) own) k = true ∧ n * n - d ≤ k := by
        intro k
        by_cases hk : k < 64
        · rw [low_clear hlow hk, Bool.and_eq_true, hv k]
          simp only [Bool.not_eq_true', decide_eq_false_iff_not]
          constructor
          · rintro ⟨⟨h1, h2⟩, h3⟩
            exact ⟨h1, by omega⟩
          · rintro ⟨h1, h2⟩
            exact ⟨⟨h1, by omega⟩, by omega⟩
        · rw [tb_ge _ (by omega)]
          constructor
          · intro h; cases h
          · rintro ⟨h, -⟩; exact absurd (tb_lt64 h) hk
      obtain ⟨c1, c2, c3⟩ := car_code hn (a := a) (b := n * n - (d + 1)) (by omega) (by omega)
      rw [m_X5_findBridges_c41, if_neg (show ¬ (49 : Int32) ≤ nI it from nI_ge (a := it) (b := 49) (by omega) (by decide)), if_neg hne, x_lowest hlow]
      rw [show nI a * (64 : Int32) + nI (n * n - (d + 1)) = nI (a * 64 + (n * n - (d + 1))) by rw [show (64 : Int32) = nI 64 from rfl, pk_mul, nI_add], c1]
      show ∃ f', (if m_J13_bitCount_95d88 (nb n a &&& nb n (n * n - (d + 1))) = 2 then _ else _) = _ ∧ _
      rw [bitcount]
      have hP := (tb_part hn hown ha).mp hb
      have hpl := pc_le (nb n a &&& nb n (n * n - (d + 1)))
      have skip : isB n own fr a (n * n - (d + 1)) = false → ∃ f', m_X5_findBridges_c118 (m_X5_findBridges_c41 (B_size (bdn n)) (B_all (bdn n)) (B_left (bdn n)) (B_right (bdn n)) fr k15 fu) (nI l.length) (nI a) v (nI it) f = k15 (nI (l ++ inn n own fr a (d + 1)).length) (nI (a + 1)) f' ∧ Sto (l ++ inn n own fr a (d + 1)) f' := by
        intro hq
        unfold m_X5_findBridges_c118
        rw [nI_1]
        have ei : inn n own fr a (d + 1) = inn n own fr a d := by rw [inn, if_neg (by rw [hq]; decide)]
        rw [ei] at hl ⊢
        exact ih fu (it + 1) _ l f (by omega) (by omega) hv' (by omega) (by omega) hS hl
      by_cases h2 : pc (nb n a &&& nb n (n * n - (d + 1))) = 2
      · rw [if_pos (by rw [h2]; rfl)]
        by_cases h3 : (nb n a &&& nb n (n * n - (d + 1))) &&& (fr ^^^ (-1)) = 0
        · have hB : isB n own fr a (n * n - (d + 1)) = true := by
            unfold isB
            rw [hP.1, hP.2.1, hP.2.2.2.1, decide_eq_true h2, decide_eq_true h3]
            rfl
          have ei : inn n own fr a (d + 1) = (a * 64 + (n * n - (d + 1))) :: inn n own fr a d := by rw [inn, if_pos hB]
          have hlen : l.length < 147 := by
            rw [ei, List.length_append, List.length_cons] at hl
            omega
          rw [if_pos h3, if_neg (show ¬ (147 : Int32) ≤ nI l.length from nI_ge (a := l.length) (b := 147) hlen (by decide)), if_pos (okI_nI hlen (by decide)), nI_clamp (by omega)]
          unfold m_X5_findBridges_c118
          rw [nI_1, nI_1]
          have := ih fu (it + 1) (v &&& (v - 1)) (l ++ [a * 64 + (n * n - (d + 1))]) (upd f l.length (nI (a * 64 + (n * n - (d + 1))))) (by omega) (by omega) hv' (by omega) (by omega) (Sto_add hS _) (by rw [ei] at hl; rw [List.append_assoc]; exact hl)
          rw [List.length_append, List.length_singleton, List.append_assoc] at this
          rw [ei]
          exact this
        · rw [if_neg h3]
          exact skip (by unfold isB; rw [decide_eq_false h3, Bool.and_false])
      · rw [if_neg (show ¬ nI (pc (nb n a &&& nb n (n * n - (d + 1)))) = (2 : Int32) from fun q => h2 ((nI_eq (a := pc (nb n a &&& nb n (n * n - (d + 1)))) (b := 2) (by omega) (by decide)).mp q))]
        exact skip (by unfold isB; rw [decide_eq_false h2, Bool.and_false, Bool.false_and])
    · have ei : inn n own fr a (d + 1) = inn n own fr a d := by
        rw [inn, if_neg (fun q => hb (isB_part hn hown had q))]
      rw [ei] at hl ⊢
      refine ih fuel it v l f (by omega) (by omega) (fun k => ?_) (by omega) (by omega) hS hl
      rw [hv k]
      constructor
      · rintro ⟨h1, h2⟩
        refine ⟨h1, ?_⟩
        by_cases q : k = n * n - (d + 1)
        · subst q; exact absurd h1 hb
        · omega
      · rintro ⟨h1, h2⟩
        exact ⟨h1, by omega⟩
theorem find_out {n : Nat} (hn : 2 ≤ n ∧ n ≤ 7) {own fr : Int64} (hown : sub own (full n)) : ∀ (d a fuel : Nat) (l : List Nat) (f : Nat → Int32), a + d = n * n → d + 1 ≤ fuel → Sto l f → (l ++ out n own fr d).length ≤ 147 → ∃ f', m_X5_findBridges_c15 (B_size (bdn n)) (B_cells (bdn n)) (B_all (bdn n)) (B_left (bdn n)) (B_right (bdn n)) own fr fuel (nI l.length) (nI a) f = some (nI (l ++ out n own fr d).length, f') ∧ Sto (l ++ out n own fr d) f' := by
  have h49 := nn_lt hn
  intro d
  induction d with
  | zero =>
    intro a fuel l f ha hf hS hl
    obtain ⟨fu, rfl⟩ : ∃ f, fuel = f + 1 := ⟨fuel - 1, by omega⟩
    refine ⟨f, ?_, by rw [out, List.append_nil]; exact hS⟩
    rw [m_X5_findBridges_c15, bd_cells hn, if_pos (nI_le (by omega) (by omega)), out, List.append_nil]
  | succ d ih =>
    intro a fuel l f ha hf hS hl
    obtain ⟨fu, rfl⟩ : ∃ f, fuel = f + 1 := ⟨fuel - 1, by omega⟩
    rw [m_X5_findBridges_c15, bd_cells hn, if_neg (nI_ge (a := a) (b := n * n) (by omega) (by omega)), ← bd_cells hn]
    have eo : out n own fr (d + 1) = inn n own fr a d ++ out n own fr d := by rw [out, show n * n - (d + 1) = a by omega]
    rw [eo, ← List.append_assoc] at hl ⊢
    have hl1 : (l ++ inn n own fr a d).length ≤ 147 := by
      rw [List.length_append] at hl; omega
    show ∃ f', m_X5_findBridges_c41 _ _ _ _ fr _ FU (nI l.length) (nI a) (m_X5_bridgePartners (B_size (bdn n)) (B_all (bdn n)) (B_left (bdn n)) (B_right (bdn n)) (own &&& jshl 1 (nI a)) own) 0 f = _ ∧ _
    obtain ⟨f1, e1, hS1⟩ := find_inn hn (fr := fr) hown (a := a) (by omega) (m_X5_findBridges_c15 (B_size (bdn n)) (B_cells (bdn n)) (B_all (bdn n)) (B_left (bdn n)) (B_right (bdn n)) own fr fu) d FU 0 (m_X5_bridgePartners (B_size (bdn n)) (B_all (bdn n)) (B_left (bdn n)) (B_right (bdn n)) (own &&& jshl 1 (nI a)) own) l f (by omega) (by omega) (fun k => ⟨fun h => ⟨h, by have := ((tb_part hn hown (by omega)).mp h).2.2.1; omega⟩, fun h => h.1⟩) (FU_ge (by omega)) (by omega) hS hl1
    rw [show (0 : Int32) = nI 0 from rfl, e1]
    exact ih (a + 1) fu (l ++ inn n own fr a d) f1 (by omega) (by omega) hS1 hl
theorem x_find {n : Nat} (hn : 2 ≤ n ∧ n ≤ 7) {own : Int64} (fr : Int64) (hown : sub own (full n)) (f : Nat → Int32) : ∃ f', m_X5_findBridges f (B_size (bdn n)) (B_cells (bdn n)) (B_all (bdn n)) (B_left (bdn n)) (B_right (bdn n)) own fr = some (nI (out n own fr (n * n)).length, f') ∧ Sto (out n own fr (n * n)) f' := by
  have h49 := nn_lt hn
  exact find_out hn (fr := fr) hown (n * n) 0 FU [] f (by omega) (FU_ge (by omega)) (fun i x h => by simp at h) (out_147 hn own fr)

/-! ints as rows of bits -/
theorem sm31 : ∀ i, i < 32 → ((nI i &&& (31 : Int32)).toBitVec.smod 32).toNat = i := by decide
theorem one_shl {h : Nat} (hh : h < 31) : (1 : Int32) <<< (nI h &&& 31) = nI (2 ^ h) := by
  have := pk_shlN (n := 1) (nI h &&& 31) h (sm31 h (by omega)) (by rw [Nat.one_mul]; exact Nat.pow_lt_pow_right (by decide) (by omega))
  rw [Nat.one_mul] at this
  exact this
theorem shr_bit {f i : Nat} (hf : f < 2 ^ 31) (hi : i < 31) : (nI f >>> (nI i &&& 31)) &&& (1 : Int32) = nI (f / 2 ^ i % 2) := by
  rw [pk_shrN hf (nI i &&& 31) i (sm31 i (by omega))]
  have h : f / 2 ^ i ≤ f := Nat.div_le_self _ _
  exact pk_andN (n := f / 2 ^ i) (by omega) (m := 1) 1 (by decide)
theorem nI_and {a b : Nat} (ha : a < 2 ^ 31) (hb : b < 2 ^ 31) : nI a &&& nI b = nI (a &&& b) := by
  apply Int32.toBitVec_inj.mp
  apply BitVec.eq_of_toNat_eq
  rw [Int32.toBitVec_and, BitVec.toNat_and, pk_tn (by omega), pk_tn (by omega), pk_tn]
  exact Nat.lt_of_le_of_lt Nat.and_le_left (by omega)
theorem nI_or {a b : Nat} (ha : a < 2 ^ 31) (hb : b < 2 ^ 31) : nI a ||| nI b = nI (a ||| b) := by
  apply Int32.toBitVec_inj.mp
  apply BitVec.eq_of_toNat_eq
  rw [Int32.toBitVec_or, BitVec.toNat_or, pk_tn (by omega), pk_tn (by omega), pk_tn]
  exact Nat.or_lt_two_pow (by omega) (by omega)
def bi (b : Bool) : Int32 := if b = true then 1 else 0
theorem nar_bi (b : Bool) : vp_nar .boolean (bi b) = bi b := by cases b <;> decide
theorem pow12 {h : Nat} (hh : h ≤ 12) : 2 ^ h ≤ 4096 := Nat.pow_le_pow_right (n := 2) (by decide) hh
/-! the fillings of the reference -/
def wn (n : Nat) (own : Int64) (l : List Nat) (f : Nat) : Bool := tbw n (own ||| dep l f)
theorem or_assoc3 (a b c : Int64) : a ||| (b ||| c) = (a ||| b) ||| c := by
  apply tb_ext; intro k _; rw [tb_or, tb_or, tb_or, tb_or, Bool.or_assoc]
theorem fill_inn {n : Nat} (hn : 2 ≤ n ∧ n ≤ 7) {near : Nat → Int64} (hN : Near n near) (k21 : Int32 → Int32 → (Nat → Int32) → (Nat → Int32) → Option (Int32 × Int32 × (Nat → Int32) × (Nat → Int32))) {f : Nat} (hf : f < 4096) {l : List Nat} (hole isWon : Nat → Int32) (hS : Sto l hole) (hl12 : l.length ≤ 12) (hb : ∀ z, z ∈ l → z < n * n) : ∀ (l2 l1 : List Nat) (fuel : Nat) (acc : Int64), l1 ++ l2 = l → l2.length + 1 ≤ fuel → sub acc (full n) → m_X6_fills_c39 (nI n) near k21 fuel (nI f) acc (nI l1.length) (nI l.length) hole isWon = k21 (nI (f + 1)) (nI l.length) hole (upd isWon f (bi (tbw n (acc ||| dep l2 (f / 2 ^ l1.length))))) := by
  have h49 := nn_lt hn
  intro l2
  induction l2 with
  | nil =>
    intro l1 fuel acc hl hfu hacc
    obtain ⟨fu, rfl⟩ : ∃ f, fuel = f + 1 := ⟨fuel - 1, by omega⟩
    rw [List.append_nil] at hl
    rw [m_X6_fills_c39, hl, if_pos (nI_le (Nat.le_refl _) (by omega)), m_wins0 hn hN hacc, bs, if_pos (okI_nI hf (by decide)), nI_clamp (by omega), nI_1]
    show k21 _ _ _ (upd isWon f (vp_nar .boolean (bi (tbw n acc)))) = k21 _ _ _ (upd isWon f (bi (tbw n (acc ||| 0))))
    rw [nar_bi, or_zero]
  | cons z l2 ih =>
    intro l1 fuel acc hl hfu hacc
    obtain ⟨fu, rfl⟩ : ∃ f, fuel = f + 1 := ⟨fuel - 1, by omega⟩
    rw [List.length_cons] at hfu
    have hlen : l.length = l1.length + (l2.length + 1) := by rw [← hl, List.length_append, List.length_cons]
    have hz : hole l1.length = nI z := hS l1.length z (by rw [← hl, List.getElem?_append, if_neg (by omega), Nat.sub_self]; rfl)
    have hzn : z < n * n := hb z (by rw [← hl]; simp)
    have eq1 : (l1 ++ [z]) ++ l2 = l := by rw [← hl, List.append_assoc]; rfl
    have el : (l1 ++ [z]).length = l1.length + 1 := by rw [List.length_append]; rfl
    have ed : f / 2 ^ (l1.length + 1) = f / 2 ^ l1.length / 2 := by rw [Nat.pow_succ, Nat.div_div_eq_div_mul]
    rw [m_X6_fills_c39, if_neg (nI_ge (a := l1.length) (b := l.length) (by omega) (by omega)), shr_bit (by omega) (by omega)]
    unfold m_X6_fills_c72
    rw [nI_1]
    show _ = k21 _ _ _ (upd isWon f (bi (tbw n (acc ||| ((if f / 2 ^ l1.length % 2 = 1 then jshl 1 (nI z) else 0) ||| dep l2 (f / 2 ^ l1.length / 2))))))
    by_cases q : f / 2 ^ l1.length % 2 = 1
    · rw [if_pos (show nI (f / 2 ^ l1.length % 2) = (1 : Int32) by rw [q]; rfl), if_pos (okI_nI (by omega) (by decide)), nI_clamp (by omega), hz, if_pos q]
      have := ih (l1 ++ [z]) fu (acc ||| jshl 1 (nI z)) eq1 (by omega) (or_sub hacc (sub_bit hn hzn))
      rw [el, ed] at this
      rw [this, or_assoc3]
    · rw [if_neg (show ¬ nI (f / 2 ^ l1.length % 2) = (1 : Int32) from fun e => q ((nI_eq (b := 1) (by omega) (by decide)).mp e)), if_neg q, or_zero]
      have := ih (l1 ++ [z]) fu acc eq1 (by omega) hacc
      rw [el, ed] at this
      rw [this, or_assoc3, or_zero]
theorem fill_out {n : Nat} (hn : 2 ≤ n ∧ n ≤ 7) {near : Nat → Int64} (hN : Near n near) {own : Int64} (hown : sub own (full n)) {l : List Nat} (hole : Nat → Int32) (hS : Sto l hole) (hl12 : l.length ≤ 12) (hb : ∀ z, z ∈ l → z < n * n) : ∀ (d f fuel : Nat) (isWon : Nat → Int32), f + d = 2 ^ l.length → d + 1 ≤ fuel → (∀ g, g < f → isWon g = bi (wn n own l g)) → ∃ w, m_X6_fills_c21 (nI n) own near fuel (nI f) (nI l.length) hole isWon = some (1, nI l.length, hole, w) ∧ ∀ g, g < 2 ^ l.length → w g = bi (wn n own l g) := by
  have h12 := pow12 hl12
  intro d
  induction d with
  | zero =>
    intro f fuel isWon hf hfu hw
    obtain ⟨fu, rfl⟩ : ∃ f, fuel = f + 1 := ⟨fuel - 1, by omega⟩
    refine ⟨isWon, ?_, fun g hg => hw g (by omega)⟩
    rw [m_X6_fills_c21, one_shl (by omega), if_pos (nI_le (by omega) (by omega))]
  | succ d ih =>
    intro f fuel isWon hf hfu hw
    obtain ⟨fu, rfl⟩ : ∃ f, fuel = f + 1 := ⟨fuel - 1, by omega⟩
    rw [m_X6_fills_c21, one_shl (by omega), if_neg (nI_ge (a := f) (b := 2 ^ l.length) (by omega) (by omega))]
    have := fill_inn hn hN (m_X6_fills_c21 (nI n) own near fu) (f := f) (by omega) hole isWon hS hl12 hb l [] FU own rfl (FU_ge (by omega)) hown
    rw [show ([] : List Nat).length = 0 from rfl, Nat.pow_zero, Nat.div_one] at this
    rw [show (0 : Int32) = nI 0 from rfl, this]
    refine ih (f + 1) fu _ (by omega) (by omega) (fun g hg => ?_)
    by_cases q : g = f
    · subst q; exact upd_at _ _ _
    · rw [upd_ne _ _ q]; exact hw g (by omega)
theorem HL_lt {n : Nat} (P : Int64) (z : Nat) (h : z ∈ HL n P) : z < n * n := by
  have := ((hl_mem P (n * n) 0 z).mp h).2.2
  omega
theorem m_fills {n : Nat} (hn : 2 ≤ n ∧ n ≤ 7) {near : Nat → Int64} (hN : Near n near) {s0 s1 : Int64} (h0 : sub s0 (full n)) (hole isWon : Nat → Int32) : ∃ h', Sto (HL n (m_X3_free s0 s1 (full n))) h' ∧ ((12 < pc (m_X3_free s0 s1 (full n)) ∧ m_X6_fills (nI n) s0 s1 near hole isWon = some (0, nI (pc (m_X3_free s0 s1 (full n))), h', isWon)) ∨ (pc (m_X3_free s0 s1 (full n)) ≤ 12 ∧ ∃ w, m_X6_fills (nI n) s0 s1 near hole isWon = some (1, nI (pc (m_X3_free s0 s1 (full n))), h', w) ∧ ∀ g, g < 2 ^ pc (m_X3_free s0 s1 (full n)) → w g = bi (wn n s0 (HL n (m_X3_free s0 s1 (full n))) g))) := by
  have hfr := free_sub hn s0 s1
  obtain ⟨h', e, hS⟩ := m_findHoles hn hfr hole
  have hpl := pc_le (m_X3_free s0 s1 (full n))
  refine ⟨h', hS, ?_⟩
  unfold m_X6_fills
  rw [free_eq hn, e, bs]
  by_cases q : pc (m_X3_free s0 s1 (full n)) ≤ 12
  · right
    refine ⟨q, ?_⟩
    rw [if_pos (show nI (pc (m_X3_free s0 s1 (full n))) ≤ (12 : Int32) from nI_le (b := 12) q (by decide))]
    have hlen := HL_len hn hfr
    have h12 := pow12 q
    have := fill_out hn hN h0 h' hS (by omega) (HL_lt _) (2 ^ (HL n (m_X3_free s0 s1 (full n))).length) 0 FU isWon (by omega) (by rw [hlen]; exact FU_ge (by omega)) (fun g hg => absurd hg (by omega))
    rw [hlen] at this
    exact this
  · left
    refine ⟨by omega, ?_⟩
    rw [if_neg (show ¬ nI (pc (m_X3_free s0 s1 (full n))) ≤ (12 : Int32) from nI_ge (a := 12) (by omega) (by omega))]
/-! the fillings of the class -/
def Tb (p : Nat → Bool) (wins : Nat → Int64) : Prop := ∀ w b, w < 64 → b < 64 → tb (wins w) b = p (64 * w + b)
theorem ushr6 {f : Nat} (hf : f < 2 ^ 31) : jiushr (nI f) 6 = nI (f / 64) := pk_ushrN (n := f) (by omega) (6 : Int32) 6 (by decide)
theorem and63 {f : Nat} (hf : f < 2 ^ 31) : nI f &&& (63 : Int32) = nI (f % 64) := pk_andN (n := f) (by omega) (m := 63) 6 (by decide)
theorem comp_loop {n : Nat} (hn : 2 ≤ n ∧ n ≤ 7) {s0 s1 : Int64} (h0 : sub s0 (full n)) {l : List Nat} (hA : Asc 0 l) (hl12 : l.length ≤ 12) (hlf : sub (setof l) (full n)) : ∀ (d f fuel : Nat) (wins : Nat → Int64), f + d = 2 ^ l.length → d + 1 ≤ fuel → Tb (fun g => decide (g < f) && wn n s0 l g) wins → ∃ w, m_X2_compute_c56 s0 s1 (B_size (bdn n)) (B_cells (bdn n)) (B_all (bdn n)) (B_upper (bdn n)) (B_lower (bdn n)) (B_left (bdn n)) (B_right (bdn n)) fuel (setof l) (dep l f) (nI f) (nI l.length) wins = some (nI l.length, w) ∧ Tb (fun g => decide (g < 2 ^ l.length) && wn n s0 l g) w := by
  have h12 := pow12 hl12
  intro d
  induction d with
  | zero =>
    intro f fuel wins hf hfu hT
    obtain ⟨fu, rfl⟩ : ∃ f, fuel = f + 1 := ⟨fuel - 1, by omega⟩
    have ef : f = 2 ^ l.length := by omega
    refine ⟨wins, ?_, by rw [← ef]; exact hT⟩
    unfold m_X2_compute_c56 m_X2_size
    rw [one_shl (by omega), if_pos (nI_le (by omega) (by omega))]
  | succ d ih =>
    intro f fuel wins hf hfu hT
    obtain ⟨fu, rfl⟩ : ∃ f, fuel = f + 1 := ⟨fuel - 1, by omega⟩
    have hso : sub (s0 ||| dep l f) (full n) := or_sub h0 (sub_trans (dep_sub hA f) hlf)
    rw [m_X2_compute_c56]
    unfold m_X2_size
    rw [one_shl (by omega), if_neg (nI_ge (a := f) (b := 2 ^ l.length) (by omega) (by omega)), show m_X3_stonesOf s0 s1 0 = s0 from rfl, x_linked hn hso, bs]
    unfold m_X2_compute_c108
    rw [x_next_dep hA, nI_1]
    by_cases q : lk n (s0 ||| dep l f) (B_upper (bdn n)) (B_lower (bdn n)) = true
    · rw [if_pos q, if_neg one_nz, ushr6 (by omega), and63 (by omega), if_pos (okI_nI (by omega) (by decide)), if_pos (okI_nI (by omega) (by decide)), nI_clamp (by omega)]
      refine ih (f + 1) fu _ (by omega) (by omega) (fun w b hw hb => ?_)
      by_cases z : w = f / 64
      · subst z
        rw [pk_uLs, tb_or, hT _ b hw hb, tb_one (by omega) hb]
        show (decide (64 * (f / 64) + b < f) && wn n s0 l (64 * (f / 64) + b) || decide (b = f % 64)) = (decide (64 * (f / 64) + b < f + 1) && wn n s0 l (64 * (f / 64) + b))
        by_cases y : b = f % 64
        · have e1 : 64 * (f / 64) + b = f := by omega
          rw [e1]
          have : wn n s0 l f = true := q
          simp [y, this]
        · have e1 : (64 * (f / 64) + b < f + 1) ↔ (64 * (f / 64) + b < f) := by omega
          simp only [y, e1, decide_false, Bool.or_false]
      · rw [pk_uLn z, hT w b hw hb]
        have e1 : (64 * w + b < f + 1) ↔ (64 * w + b < f) := by omega
        simp only [e1]
    · rw [if_neg q, if_pos rfl]
      refine ih (f + 1) fu _ (by omega) (by omega) (fun w b hw hb => ?_)
      rw [hT w b hw hb]
      show (decide (64 * w + b < f) && wn n s0 l (64 * w + b)) = (decide (64 * w + b < f + 1) && wn n s0 l (64 * w + b))
      by_cases y : 64 * w + b = f
      · rw [y]
        have : wn n s0 l f = false := by
          cases z : wn n s0 l f
          · rfl
          · exact absurd z q
        simp [this]
      · have e1 : (64 * w + b < f + 1) ↔ (64 * w + b < f) := by omega
        simp only [e1]
theorem comp_zero {n : Nat} {s0 s1 P : Int64} {cnt : Int32} : ∀ (d i fuel : Nat) (wins : Nat → Int64), i + d = 64 → d + 1 ≤ fuel → (∀ w, w < i → wins w = 0) → ∃ w, (∀ i, i < 64 → w i = 0) ∧ m_X2_compute_c26 s0 s1 (B_size (bdn n)) (B_cells (bdn n)) (B_all (bdn n)) (B_upper (bdn n)) (B_lower (bdn n)) (B_left (bdn n)) (B_right (bdn n)) fuel P (nI i) cnt wins = m_X2_compute_c56 s0 s1 (B_size (bdn n)) (B_cells (bdn n)) (B_all (bdn n)) (B_upper (bdn n)) (B_lower (bdn n)) (B_left (bdn n)) (B_right (bdn n)) FU P 0 0 cnt w := by
  intro d
  induction d with
  | zero =>
    intro i fuel wins hi hf hw
    obtain ⟨fu, rfl⟩ : ∃ f, fuel = f + 1 := ⟨fuel - 1, by omega⟩
    have e : i = 64 := by omega
    subst e
    refine ⟨wins, hw, ?_⟩
    rw [m_X2_compute_c26, if_pos (by decide)]
  | succ d ih =>
    intro i fuel wins hi hf hw
    obtain ⟨fu, rfl⟩ : ∃ f, fuel = f + 1 := ⟨fuel - 1, by omega⟩
    rw [m_X2_compute_c26, if_neg (show ¬ (64 : Int32) ≤ nI i from nI_ge (a := i) (b := 64) (by omega) (by decide)), if_pos (okI_nI (by omega) (by decide)), nI_clamp (by omega), nI_1]
    refine ih (i + 1) fu _ (by omega) (by omega) (fun w h => ?_)
    by_cases q : w = i
    · subst q; exact pk_uLs
    · rw [pk_uLn q]; exact hw w (by omega)
theorem x_compute {n : Nat} (hn : 2 ≤ n ∧ n ≤ 7) {s0 s1 : Int64} (h0 : sub s0 (full n)) (hc : pc (m_X3_free s0 s1 (full n)) ≤ 12) (wins : Nat → Int64) : ∃ w, m_X2_compute wins s0 s1 (B_size (bdn n)) (B_cells (bdn n)) (B_all (bdn n)) (B_upper (bdn n)) (B_lower (bdn n)) (B_left (bdn n)) (B_right (bdn n)) = some (nI (pc (m_X3_free s0 s1 (full n))), w) ∧ Tb (fun g => decide (g < 2 ^ pc (m_X3_free s0 s1 (full n))) && wn n s0 (HL n (m_X3_free s0 s1 (full n))) g) w := by
  have hfr := free_sub hn s0 s1
  have hlen := HL_len hn hfr
  have hset := HL_set hn hfr
  have h12 := pow12 hc
  unfold m_X2_compute
  rw [bitcount]
  have em : jmin 12 (nI (pc (m_X3_free s0 s1 (full n)))) = nI (pc (m_X3_free s0 s1 (full n))) := by
    show (if nI (pc (m_X3_free s0 s1 (full n))) < 12 then nI (pc (m_X3_free s0 s1 (full n))) else 12) = _
    by_cases q : pc (m_X3_free s0 s1 (full n)) = 12
    · rw [q]; rfl
    · rw [if_pos (show nI (pc (m_X3_free s0 s1 (full n))) < (12 : Int32) from nI_lt (b := 12) (by omega) (by decide))]
  rw [em]
  obtain ⟨w, hw, e⟩ := comp_zero (n := n) (s0 := s0) (s1 := s1) (P := m_X3_free s0 s1 (full n)) (cnt := nI (pc (m_X3_free s0 s1 (full n)))) 64 0 FU wins (by omega) (FU_ge (by omega)) (fun w h => absurd h (by omega))
  rw [show (0 : Int32) = nI 0 from rfl, e]
  have := comp_loop hn (s1 := s1) h0 (hl_asc (m_X3_free s0 s1 (full n)) (n * n) 0) (by rw [hlen]; exact hc) (by rw [hset]; exact hfr) (2 ^ (HL n (m_X3_free s0 s1 (full n))).length) 0 FU w (Nat.zero_add _) (by rw [hlen]; exact FU_ge (by omega)) (fun i b hi hb => by
    rw [hw i hi, tb_zero]
    have : ¬ 64 * i + b < 0 := by omega
    simp)
  rw [hset, dep_zero, hlen] at this
  exact this

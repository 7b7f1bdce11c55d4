/-! answers -/
def astep (n : Nat) (c : Nat) (acc : Int64) (code : Nat) : Int64 := if tb (nb n (code / 64) &&& nb n (code % 64)) c = true then acc ||| ((nb n (code / 64) &&& nb n (code % 64)) &&& (jshl 1 (nI c) ^^^ (-1))) else acc
theorem x_ans_loop {n : Nat} (hn : 2 ≤ n ∧ n ≤ 7) {c : Nat} (hc : c < n * n) (f : Nat → Int32) : ∀ (l2 l1 : List Nat) (fuel : Nat) (acc : Int64), Sto (l1 ++ l2) f → (l1 ++ l2).length ≤ 147 → (∀ z, z ∈ l2 → z / 64 < 64) → l2.length + 1 ≤ fuel → m_X5_answers_c53 (B_size (bdn n)) (B_all (bdn n)) (B_left (bdn n)) (B_right (bdn n)) fuel (jshl 1 (nI c)) (nI (l1 ++ l2).length) acc (nI l1.length) f = some (l2.foldl (astep n c) acc, f) := by
  have h49 := nn_lt hn
  intro l2
  induction l2 with
  | nil =>
    intro l1 fuel acc hS hl hz hf
    obtain ⟨fu, rfl⟩ : ∃ f, fuel = f + 1 := ⟨fuel - 1, by omega⟩
    rw [List.append_nil] at hl ⊢
    rw [m_X5_answers_c53, if_pos (nI_le (Nat.le_refl _) (by omega))]
    rfl
  | cons z l2 ih =>
    intro l1 fuel acc hS hl hz hf
    obtain ⟨fu, rfl⟩ : ∃ f, fuel = f + 1 := ⟨fuel - 1, by omega⟩
    have hlen : (l1 ++ z :: l2).length = l1.length + (l2.length + 1) := by rw [List.length_append, List.length_cons]
    have hS1 : f l1.length = nI z := hS l1.length z (by rw [List.getElem?_append, if_neg (by omega), Nat.sub_self]; rfl)
    have eq1 : l1 ++ z :: l2 = (l1 ++ [z]) ++ l2 := by rw [List.append_assoc]; rfl
    have hz64 := hz z (List.mem_cons_self ..)
    obtain ⟨c1, -, -⟩ := car_code hn (a := z / 64) (b := z % 64) hz64 (Nat.mod_lt _ (by decide))
    rw [show z / 64 * 64 + z % 64 = z by omega] at c1
    rw [m_X5_answers_c53, if_neg (nI_ge (a := l1.length) (b := (l1 ++ z :: l2).length) (by omega) (by omega)), if_neg (show ¬ (147 : Int32) ≤ nI l1.length from nI_ge (a := l1.length) (b := 147) (by omega) (by decide)), if_pos (okI_nI (by omega) (by decide)), nI_clamp (by omega), hS1, c1]
    have step := ih (l1 ++ [z]) fu (astep n c acc z) (by rw [← eq1]; exact hS) (by rw [← eq1]; exact hl) (fun y hy => hz y (List.mem_cons_of_mem _ hy)) (by rw [List.length_cons] at hf; omega)
    rw [← eq1, show (l1 ++ [z]).length = l1.length + 1 by rw [List.length_append]; rfl] at step
    rw [List.foldl_cons, ← step]
    show (if (nb n (z / 64) &&& nb n (z % 64)) &&& jshl 1 (nI c) = 0 then m_X5_answers_c103 _ _ _ _ _ _ else m_X5_answers_c103 _ _ _ _ _ _) = _
    unfold m_X5_answers_c103 astep
    rw [nI_1]
    have e : ((nb n (z / 64) &&& nb n (z % 64)) &&& jshl 1 (nI c) = 0) ↔ ¬ tb (nb n (z / 64) &&& nb n (z % 64)) c = true := by
      rw [and_eq_zero]
      constructor
      · intro h q
        exact h c q (by rw [tb_one (by omega) (by omega)]; exact decide_eq_true rfl)
      · intro h k h1 h2
        rw [tb_one (by omega) (tb_lt64 h2)] at h2
        rw [of_decide_eq_true h2] at h1
        exact h h1
    by_cases q : tb (nb n (z / 64) &&& nb n (z % 64)) c = true
    · rw [if_neg (fun w => e.mp w q), if_pos q]
    · rw [if_pos (e.mpr q), if_neg q]
theorem m_ans_inn {n : Nat} (hn : 2 ≤ n ∧ n ≤ 7) {near : Nat → Int64} (hN : Near n near) {c : Nat} (hc : c < n * n) (own fr : Int64) {a : Nat} (ha : a < n * n) (k64 : Int32 → Int64 → Int64 → Int64 → Int32 → Option Int64) : ∀ (d b fuel : Nat) (acc : Int64), b + d = n * n → d + 1 ≤ fuel → m_X6_answersNow_c84 (nI n) near k64 fuel (nI c) own fr acc (nI a) (nI b) = k64 (nI c) own fr ((inn n own fr a d).foldl (astep n c) acc) (nI (a + 1)) := by
  have h49 := nn_lt hn
  intro d
  induction d with
  | zero =>
    intro b fuel acc hb hf
    obtain ⟨fu, rfl⟩ : ∃ f, fuel = f + 1 := ⟨fuel - 1, by omega⟩
    rw [m_X6_answersNow_c84, pk_mul, if_pos (nI_le (by omega) (by omega)), nI_1]
    rfl
  | succ d ih =>
    intro b fuel acc hb hf
    obtain ⟨fu, rfl⟩ : ∃ f, fuel = f + 1 := ⟨fuel - 1, by omega⟩
    rw [m_X6_answersNow_c84, pk_mul, if_neg (nI_ge (a := b) (b := n * n) (by omega) (by omega)), has_eq _ (by omega), has_eq _ (by omega), m_carrier hn hN ha (by omega), bs, inn_at hb]
    have skip : ∀ z : Int64, z = 0 → ¬ isB n own fr a b = true → m_X6_answersNow_c130 (m_X6_answersNow_c84 (nI n) near k64 fu) (nI c) own fr acc (nI a) (nI b) z = k64 (nI c) own fr ((if isB n own fr a b = true then (a * 64 + b) :: inn n own fr a d else inn n own fr a d).foldl (astep n c) acc) (nI (a + 1)) := by
      intro z hz hq
      rw [if_neg hq]
      unfold m_X6_answersNow_c130 m_X6_answersNow_c157
      rw [has_eq _ (by omega), hz, tb_zero, if_pos (show (if false = true then (1 : Int32) else 0) = 0 from rfl), nI_1, or_zero]
      exact ih (b + 1) fu acc (by omega) (by omega)
    by_cases h1 : tb own a = true
    · rw [if_pos h1, if_neg one_nz]
      by_cases h2 : tb own b = true
      · rw [if_pos h2, if_neg one_nz]
        by_cases h3 : cv n fr a b = 0
        · exact skip _ h3 (fun q => (isB_iff.mp q).2.2 h3)
        · have hB := isB_iff.mpr ⟨h1, h2, h3⟩
          have hab : (a * 64 + b) / 64 = a ∧ (a * 64 + b) % 64 = b := by omega
          rw [if_pos hB, isB_cv hB, List.foldl_cons]
          unfold m_X6_answersNow_c130 m_X6_answersNow_c157
          rw [has_eq _ (by omega), nI_1]
          unfold astep
          rw [hab.1, hab.2]
          by_cases q : tb (nb n a &&& nb n b) c = true
          · rw [if_pos q, if_neg one_nz, if_pos q]
            exact ih (b + 1) fu _ (by omega) (by omega)
          · rw [if_neg q, if_pos rfl, if_neg q, or_zero]
            exact ih (b + 1) fu _ (by omega) (by omega)
      · rw [if_neg h2, if_pos rfl]
        exact skip 0 rfl (fun q => h2 (isB_iff.mp q).2.1)
    · rw [if_neg h1, if_pos rfl]
      exact skip 0 rfl (fun q => h1 (isB_iff.mp q).1)
theorem m_ans_out {n : Nat} (hn : 2 ≤ n ∧ n ≤ 7) {near : Nat → Int64} (hN : Near n near) {c : Nat} (hc : c < n * n) (own fr : Int64) : ∀ (d a fuel : Nat) (acc : Int64), a + d = n * n → d + 1 ≤ fuel → m_X6_answersNow_c64 (nI n) near fuel (nI c) own fr acc (nI a) = some ((out n own fr d).foldl (astep n c) acc) := by
  have h49 := nn_lt hn
  intro d
  induction d with
  | zero =>
    intro a fuel acc ha hf
    obtain ⟨fu, rfl⟩ : ∃ f, fuel = f + 1 := ⟨fuel - 1, by omega⟩
    rw [m_X6_answersNow_c64, pk_mul, if_pos (nI_le (by omega) (by omega))]
    rfl
  | succ d ih =>
    intro a fuel acc ha hf
    obtain ⟨fu, rfl⟩ : ∃ f, fuel = f + 1 := ⟨fuel - 1, by omega⟩
    rw [m_X6_answersNow_c64, pk_mul, if_neg (nI_ge (a := a) (b := n * n) (by omega) (by omega)), nI_1, m_ans_inn hn hN hc own fr (by omega) _ d (a + 1) FU acc (by omega) (FU_ge (by omega)), ih (a + 1) fu _ (by omega) (by omega), out_at ha, List.foldl_append]
theorem answers_eq {n : Nat} (hn : 2 ≤ n ∧ n ≤ 7) {near : Nat → Int64} (hN : Near n near) {f g : Nat → Int32} {m K : Nat} (hm : m ≤ K) (hv : Valid n f K) (hg : ∀ k, k < K → g k = f k) (fb : Nat → Int32) : ∃ ox oy, m_X5_answers (nI m) (st n f m).1 (st n f m).2 f fb (B_size (bdn n)) (B_cells (bdn n)) (B_all (bdn n)) (B_left (bdn n)) (B_right (bdn n)) = some ox ∧ m_X6_answersNow (nI n) (nI m) (st n f m).1 (st n f m).2 g near = some oy ∧ ox.1 = oy := by
  have h49 := nn_lt hn
  have h50 := K_le hn hv
  obtain ⟨q1, q2, q3, -⟩ := st_ok hn hv m hm
  unfold m_X5_answers m_X6_answersNow m_X3_latest
  cases m with
  | zero => exact ⟨(0, fb), 0, rfl, rfl, rfl⟩
  | succ m =>
    rw [nI_pred, x_moveNumber (by omega), bs, bs, if_neg (nI_ne0 (by omega) (by omega)), if_pos (okI_nI (by omega) (by decide)), nI_clamp (by omega), hg m (by omega)]
    rcases hv m (by omega) with ⟨-, e2⟩ | ⟨c, hc, e, -, -⟩
    · rw [e2, if_neg (by decide), if_pos rfl]
      exact ⟨_, _, rfl, rfl, rfl⟩
    · rw [e, if_pos (nI_pos' (by omega)), if_neg (nI_n16 (by omega)), if_pos (okI_nI (by omega) (by decide))]
      have hown := own_sub q1 q2 (m_X3_mover (nI (m + 1)))
      obtain ⟨fb', e1, hS⟩ := x_find hn (m_X3_free (st n f (m + 1)).1 (st n f (m + 1)).2 (full n) ||| jshl 1 (nI c)) hown fb
      have h147 := out_147 hn (m_X3_stonesOf (st n f (m + 1)).1 (st n f (m + 1)).2 (m_X3_mover (nI (m + 1)))) (m_X3_free (st n f (m + 1)).1 (st n f (m + 1)).2 (full n) ||| jshl 1 (nI c))
      rw [e1, bs]
      have r1 := x_ans_loop hn hc fb' _ [] FU 0 hS h147 (fun z hz => by
        obtain ⟨a, b, ez, hB⟩ := out_mem _ _ hz
        have ha := (sub_full hn).mp hown a (isB_iff.mp hB).1
        have hb := (sub_full hn).mp hown b (isB_iff.mp hB).2.1
        omega) (FU_ge (by omega))
      have r2 := m_ans_out hn hN hc (m_X3_stonesOf (st n f (m + 1)).1 (st n f (m + 1)).2 (m_X3_mover (nI (m + 1)))) (m_X3_free (st n f (m + 1)).1 (st n f (m + 1)).2 (full n) ||| jshl 1 (nI c)) (n * n) 0 FU 0 (by omega) (FU_ge (by omega))
      refine ⟨_, _, r1, ?_, rfl⟩
      rw [free_eq hn]
      exact r2
theorem s_answers : S_answers InvR := by
  rintro x b y t0 t1 ⟨n, m, K, hn, rfl, ⟨g1, g2, g3, g4, g5, g6, g7, g8, g9, g10, g11, g12⟩, hN, hR⟩
  obtain ⟨ox, oy, e1, e2, e3⟩ := answers_eq hn hN g6 g7 g8 (X_o_foundBridges x)
  refine ⟨ox, oy, ?_, ?_, e3, n, m, K, hn, rfl, ⟨g1, g2, g3, g4, g5, g6, g7, g8, g9, g10, g11, g12⟩, hN, hR⟩
  · rw [g2, g9, g10]; exact e1
  · unfold m_X6_answers
    rw [g1, g3, g11, g12, e2]
    rfl

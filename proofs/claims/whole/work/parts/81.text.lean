/-! text -/
theorem in97 {n : Nat} (hn : 2 ≤ n ∧ n ≤ 7) : ∀ a, a < 128 → m_X6_in (nI a - 97) 0 (nI n - 1) = if 97 ≤ a ∧ a < 97 + n then 1 else 0 :=
  n27 (P := fun n => ∀ a, a < 128 → m_X6_in (nI a - 97) 0 (nI n - 1) = if 97 ≤ a ∧ a < 97 + n then 1 else 0) (by decide +kernel) (by decide +kernel) (by decide +kernel) (by decide +kernel) (by decide +kernel) (by decide +kernel) hn
theorem in49 {n : Nat} (hn : 2 ≤ n ∧ n ≤ 7) : ∀ a, a < 128 → m_X6_in (nI a - 49) 0 (nI n - 1) = if 49 ≤ a ∧ a < 49 + n then 1 else 0 :=
  n27 (P := fun n => ∀ a, a < 128 → m_X6_in (nI a - 49) 0 (nI n - 1) = if 49 ≤ a ∧ a < 49 + n then 1 else 0) (by decide +kernel) (by decide +kernel) (by decide +kernel) (by decide +kernel) (by decide +kernel) (by decide +kernel) hn
theorem cell_code {n a b : Nat} (ha : 97 ≤ a) (hb : 49 ≤ b) : ((nI b - 49) * nI n + nI a) - 97 = nI ((b - 49) * n + (a - 97)) := by
  rw [show (49 : Int32) = nI 49 from rfl, show (97 : Int32) = nI 97 from rfl, pk_sub hb, pk_mul, nI_add, pk_sub (by omega)]
  exact congrArg nI (by omega)
theorem x_letter {c k a : Nat} {xt : Nat → Int32} (hc : c ≤ 100) (hk : k < c) (ha : xt k = nI a) : m_X5_letterAt (nI c) xt (nI k) = some (nI a) := by
  unfold m_X5_letterAt
  rw [if_neg (nI_pos (by omega)), if_neg (nI_ge hk (by omega)), if_neg (show ¬ (100 : Int32) ≤ nI k from nI_ge (a := k) (b := 100) (by omega) (by decide)), if_pos (okI_nI (by omega) (by decide)), nI_clamp (by omega), ha]
theorem x_letter_end {c : Nat} {xt : Nat → Int32} (hc : c ≤ 100) : m_X5_letterAt (nI c) xt (nI c) = some (-15) := by
  unfold m_X5_letterAt
  rw [if_neg (nI_pos (by omega)), if_pos (nI_le (Nat.le_refl c) (by omega))]
theorem vic_cases (n : Nat) (s0 s1 : Int64) : vic n s0 s1 = -15 ∨ (¬ vic n s0 s1 = -15) := Classical.em _
theorem lt97 {a b : Nat} (ha : a < 2 ^ 30) (hb : b < 2 ^ 30) : (nI a < nI b) ↔ a < b := by
  constructor
  · intro h
    rcases Nat.lt_or_ge a b with q | q
    · exact q
    · exact absurd h (nI_nlt q (by omega))
  · intro h; exact nI_lt h (by omega)
def TX (n : Nat) (ox : Int32 × Int32 × Int32 × Int64 × Int64 × (Nat → Int32)) (oy : Int32 × Int64 × Int64 × Int32 × (Nat → Int32)) : Prop := (ox.1 = -15 ∧ oy.1 = -1 ∧ ∃ M f, Valid n f M ∧ ox.2 = (nI M, nI M, (st n f M).1, (st n f M).2, f) ∧ oy.2.2.2.1 = nI M ∧ ∀ k, k < M → oy.2.2.2.2 k = f k) ∨ ∃ q, q ≤ 100 ∧ ox.1 = nI q ∧ oy.1 = nI q
theorem text_loop {n : Nat} (hn : 2 ≤ n ∧ n ≤ 7) {near : Nat → Int64} (hN : Near n near) {c : Nat} (hc : c ≤ 100) {xt yt : Nat → Int32} (ht : ∀ k, k < c → ∃ a, a < 128 ∧ xt k = nI a ∧ yt k = nI a) : ∀ (D d at' i fuel M : Nat) (f told : Nat → Int32) (first : Int32), d ≤ D → at' + d = c → i ≤ at' → d + 1 ≤ fuel → Valid n f M → (∀ k, k < M → told k = f k) → (0 < M → first = f 0) → ∃ ox oy, m_X5_tryText_c18 (nI c) xt (B_size (bdn n)) (B_cells (bdn n)) (B_all (bdn n)) (B_upper (bdn n)) (B_lower (bdn n)) (B_left (bdn n)) (B_right (bdn n)) fuel (nI at') (nI i) (nI M) (nI M) (st n f M).1 (st n f M).2 f = some ox ∧ m_X6_faultOf_c19 (nI n) (nI c) near yt fuel (nI at') first (st n f M).1 (st n f M).2 (nI M) told = some oy ∧ TX n ox oy := by
  have h49 := nn_lt hn
  have n15 : ∀ q, q ≤ 100 → ¬ nI q = (-15 : Int32) := fun q hq e => by
    have h2 := nI_toInt (n := q) (by omega)
    rw [e] at h2
    have : (-15 : Int32).toInt = -15 := rfl
    omega
  intro D
  induction D with
  | zero =>
    intro d at' i fuel M f told first hD hd hi hf hv htold hfirst
    obtain ⟨fu, rfl⟩ : ∃ f, fuel = f + 1 := ⟨fuel - 1, by omega⟩
    have e : at' = c := by omega
    subst e
    refine ⟨(-15, nI M, nI M, (st n f M).1, (st n f M).2, f), (-1, (st n f M).1, (st n f M).2, nI M, told), ?_, ?_, Or.inl ⟨rfl, rfl, M, f, hv, rfl, rfl, htold⟩⟩
    · rw [m_X5_tryText_c18, if_pos (nI_le (Nat.le_refl _) (by omega))]
      split <;> rfl
    · rw [m_X6_faultOf_c19, if_pos (nI_le (Nat.le_refl _) (by omega))]
  | succ D ih =>
    intro d at' i fuel M f told first hD hd hi hf hv htold hfirst
    obtain ⟨fu, rfl⟩ : ∃ f, fuel = f + 1 := ⟨fuel - 1, by omega⟩
    by_cases hac : at' = c
    · subst hac
      refine ⟨(-15, nI M, nI M, (st n f M).1, (st n f M).2, f), (-1, (st n f M).1, (st n f M).2, nI M, told), ?_, ?_, Or.inl ⟨rfl, rfl, M, f, hv, rfl, rfl, htold⟩⟩
      · rw [m_X5_tryText_c18, if_pos (nI_le (Nat.le_refl _) (by omega))]
        split <;> rfl
      · rw [m_X6_faultOf_c19, if_pos (nI_le (Nat.le_refl _) (by omega))]
    · have hlt : at' < c := by omega
      have h50 := K_le hn hv
      obtain ⟨a, ha, hxa, hya⟩ := ht at' hlt
      obtain ⟨q1, q2, q3, -⟩ := st_ok hn hv M (Nat.le_refl M)
      rw [m_X5_tryText_c18, if_neg (show ¬ (100 : Int32) ≤ nI i from nI_ge (a := i) (b := 100) (by omega) (by decide)), if_neg (nI_ge hlt (by omega)), m_X6_faultOf_c19, if_neg (nI_ge hlt (by omega)), if_pos (okI_nI (by omega) (by decide)), m_winner hn hN q1 q2, bs, nI_clamp (by omega), hya]
      unfold m_X5_moveLength m_X5_faultOfMove
      rw [x_letter hc hlt hxa, bs, x_victor hn q1 q2, bd_size hn]
      by_cases hvic : vic n (st n f M).1 (st n f M).2 = -15
      · rw [if_pos hvic]
        by_cases hS : a = 83
        · rw [hS, if_pos (show nI 83 = (83 : Int32) from rfl), if_pos (show nI 83 = (83 : Int32) from rfl), bs, bs, if_pos hvic, if_pos rfl]
          unfold m_X3_maySwap
          by_cases hM : M = 1
          · subst hM
            have ok : (1 = 1 ∧ (-16 : Int32) = -16) ∨ ∃ c, c < n * n ∧ (-16 : Int32) = nI c ∧ tb (st n f 1).1 c = false ∧ tb (st n f 1).2 c = false := Or.inl ⟨rfl, rfl⟩
            obtain ⟨-, ea⟩ := x_add hn hv (Nat.le_refl 1) ok
            obtain ⟨va, -⟩ := valid_add hv (Nat.le_refl 1) ok
            rw [if_pos (show nI 1 = (1 : Int32) from rfl), if_neg one_nz, bs, if_pos rfl, if_pos rfl, if_pos (show nI 1 = (1 : Int32) from rfl), if_neg (nI_nz hn), if_neg (nI_nz hn)]
            unfold m_X5_tryText_c75 m_X6_faultOf_c259
            rw [ea, bs, if_pos (okI_nI (by omega) (by decide)), nI_1, nI_1, show nI 1 + (1 : Int32) = nI 2 from rfl]
            have estep : st n (upd f 1 (-16)) (1 + 1) = (0, jshl 1 (swc n (f 0))) := by
              rw [st, upd_at, if_pos rfl, upd_ne f (-16) (by decide)]
            have := ih (d - 1) (at' + 1) (i + 1) fu 2 (upd f 1 (-16)) (upd told 1 (-16)) first (by omega) (by omega) (by omega) (by omega) va (fun k hk => by
              by_cases z : k = 1
              · subst z; rw [upd_at, upd_at]
              · rw [upd_ne _ _ z, upd_ne _ _ z]; exact htold k (by omega)) (fun _ => by rw [upd_ne _ _ (by decide)]; exact hfirst (by omega))
            rw [estep] at this
            rw [estep, hfirst (by omega), nI_clamp (by omega), ← bd_size hn]
            rw [hfirst (by omega)] at this
            unfold swc at this ⊢
            rw [bd_size hn] at *
            exact this
          · have hM1 : ¬ nI M = (1 : Int32) := fun e => hM ((nI_one (by omega)).mp e)
            rw [if_neg hM1, if_pos rfl, bs, if_neg (n15 at' (by omega)), if_neg hM1]
            exact ⟨_, _, rfl, rfl, Or.inr ⟨at', by omega, rfl, rfl⟩⟩
        · have hS1 : ¬ nI a = (83 : Int32) := fun e => hS ((nI_eq (a := a) (b := 83) (by omega) (by decide)).mp e)
          rw [if_neg hS1, if_neg hS1, bs, bs, if_pos hvic, if_neg (show ¬ (2 : Int32) = 1 by decide), in97 hn a ha]
          rw [show ((97 : Int32) + nI n) = nI (97 + n) by rw [← nI_add]; rfl, show ((49 : Int32) + nI n) = nI (49 + n) by rw [← nI_add]; rfl]
          have fault : ∀ (q : Nat) (z0 : Int32 × Int32 × Int64 × Int64 × (Nat → Int32)) (z1 : Int64 × Int64 × Int32 × (Nat → Int32)), q ≤ 100 → ∃ ox oy, (if nI q = (-15 : Int32) then (none : Option (Int32 × Int32 × Int32 × Int64 × Int64 × (Nat → Int32))) else some (nI q, z0)) = some ox ∧ some (nI q, z1) = some oy ∧ TX n ox oy := fun q z0 z1 hq => by
            rw [if_neg (n15 q hq)]
            exact ⟨_, _, rfl, rfl, Or.inr ⟨q, hq, rfl, rfl⟩⟩
          by_cases hl : 97 ≤ a ∧ a < 97 + n
          · rw [if_pos hl, if_neg one_nz, bs, if_neg (show ¬ nI a < (97 : Int32) from nI_nlt (a := a) (b := 97) hl.1 (by omega)), bs, if_pos ((lt97 (by omega) (by omega)).mpr hl.2), nI_1]
            by_cases hend : at' + 1 = c
            · rw [hend, x_letter_end hc, bs, if_pos (show (-15 : Int32) < 49 by decide), bs, if_neg (n15 c hc), if_pos rfl]
              exact ⟨_, _, rfl, rfl, Or.inr ⟨c, hc, rfl, rfl⟩⟩
            · have hlt2 : at' + 1 < c := by omega
              obtain ⟨b, hb, hxb, hyb⟩ := ht (at' + 1) hlt2
              have hne : ¬ nI (at' + 1) = nI c := fun e => hend ((nI_eq (by omega) (by omega)).mp e)
              rw [x_letter hc hlt2 hxb, bs, bs, if_neg hne, if_pos (okI_nI (by omega) (by decide)), nI_clamp (by omega), hyb, in49 hn b hb]
              by_cases hl2 : 49 ≤ b ∧ b < 49 + n
              · rw [if_pos hl2, if_neg one_nz, if_pos (okI_nI (by omega) (by decide)), if_neg (show ¬ nI b < (49 : Int32) from nI_nlt (a := b) (b := 49) hl2.1 (by omega)), if_neg (nI_ge (a := b) (b := 49 + n) hl2.2 (by omega))]
                unfold m_X5_cellAt
                rw [nI_1, x_letter hc hlt2 hxb, x_letter hc hlt hxa, bs, bs, bs, cell_code hl.1 hl2.1]
                have hj : (b - 49) * n + (a - 97) < n * n := by
                  have h1 : b - 49 + 1 ≤ n := by omega
                  have h2 := Nat.mul_le_mul_right n h1
                  rw [Nat.add_mul] at h2
                  omega
                generalize hje : (b - 49) * n + (a - 97) = j at hj ⊢
                rw [isFree_eq (by omega)]
                show ∃ ox oy, _ = some ox ∧ (if m_X6_has (m_X6_free (nI n) (st n f M).1 (st n f M).2) (nI j) = 0 then _ else _) = some oy ∧ TX n ox oy
                rw [free_eq hn, has_eq _ (by omega)]
                by_cases hfree : tb (m_X3_free (st n f M).1 (st n f M).2 (full n)) j = true
                · rw [if_pos hfree, if_neg one_nz, if_neg one_nz, bs, if_pos rfl, if_neg (show ¬ (2 : Int32) = 1 by decide)]
                  rw [tb_free hn _ _ (by omega)] at hfree
                  simp only [Bool.and_eq_true, Bool.not_eq_true'] at hfree
                  have ok : (M = 1 ∧ nI j = -16) ∨ ∃ c, c < n * n ∧ nI j = nI c ∧ tb (st n f M).1 c = false ∧ tb (st n f M).2 c = false := Or.inr ⟨j, hj, rfl, hfree.1.2, hfree.2⟩
                  obtain ⟨hM50, ea⟩ := x_add hn hv (Nat.le_refl M) ok
                  obtain ⟨va, -⟩ := valid_add hv (Nat.le_refl M) ok
                  unfold m_X5_tryText_c75
                  rw [bs, ea, bs, nI_1, show nI at' + (2 : Int32) = nI (at' + 2) from nI_add at' 2, nI_1 (at' + 1)]
                  have hfirst' : 0 < M + 1 → (if M = 0 then nI j else first) = upd f M (nI j) 0 := fun _ => by
                    by_cases z : M = 0
                    · subst z; rw [if_pos rfl, upd_at]
                    · rw [if_neg z, upd_ne _ _ (by omega)]; exact hfirst (by omega)
                  have := ih (d - 2) (at' + 2) (i + 1) fu (M + 1) (upd f M (nI j)) (upd told M (nI j)) (if M = 0 then nI j else first) (by omega) (by omega) (by omega) (by omega) va (fun k hk => by
                    by_cases z : k = M
                    · subst z; rw [upd_at, upd_at]
                    · rw [upd_ne _ _ z, upd_ne _ _ z]; exact htold k (by omega)) hfirst'
                  have estep : st n (upd f M (nI j)) (M + 1) = if M % 2 = 0 then ((st n f M).1 ||| jshl 1 (nI j), (st n f M).2) else ((st n f M).1, (st n f M).2 ||| jshl 1 (nI j)) := by
                    rw [st, upd_at, if_neg (nI_n16 (by omega)), st_congr M (fun k hk => upd_ne f (nI j) (by omega))]
                  have eref : (if nI M = 0 then m_X6_faultOf_c205 (m_X6_faultOf_c19 (nI n) (nI c) near yt fu) (nI (at' + 1 + 1)) (nI j) (nI j) (st n f M).1 (st n f M).2 (nI M) told else m_X6_faultOf_c205 (m_X6_faultOf_c19 (nI n) (nI c) near yt fu) (nI (at' + 1 + 1)) (nI j) first (st n f M).1 (st n f M).2 (nI M) told) = m_X6_faultOf_c19 (nI n) (nI c) near yt fu (nI (at' + 2)) (if M = 0 then nI j else first) (st n (upd f M (nI j)) (M + 1)).1 (st n (upd f M (nI j)) (M + 1)).2 (nI (M + 1)) (upd told M (nI j)) := by
                    have e0 : ∀ F : Int32, m_X6_faultOf_c205 (m_X6_faultOf_c19 (nI n) (nI c) near yt fu) (nI (at' + 1 + 1)) (nI j) F (st n f M).1 (st n f M).2 (nI M) told = m_X6_faultOf_c19 (nI n) (nI c) near yt fu (nI (at' + 2)) F (st n (upd f M (nI j)) (M + 1)).1 (st n (upd f M (nI j)) (M + 1)).2 (nI (M + 1)) (upd told M (nI j)) := by
                      intro F
                      unfold m_X6_faultOf_c205 m_X6_faultOf_c228 m_X6_faultOf_c255 m_X6_faultOf_c259
                      rw [irem2 (by omega), estep, nI_clamp (by omega), nI_1]
                      by_cases hp : M % 2 = 0
                      · rw [if_pos (nI_mod2.mpr hp), if_neg (show ¬ nI (M % 2) = (1 : Int32) by rw [hp]; decide), if_pos hp, or_zero, if_pos (okI_nI (by omega) (by decide))]
                      · have hp1 : M % 2 = 1 := by omega
                        rw [if_neg (fun q => hp (nI_mod2.mp q)), if_pos (show nI (M % 2) = (1 : Int32) by rw [hp1]; rfl), if_neg hp, or_zero, if_pos (okI_nI (by omega) (by decide))]
                    rw [e0, e0]
                    by_cases z : M = 0
                    · subst z; rw [if_pos (show nI 0 = (0 : Int32) from rfl), if_pos (show (0 : Nat) = 0 from rfl)]
                    · rw [if_neg (nI_ne0 (by omega) (by omega)), if_neg z]
                  rw [eref]
                  rw [bd_size hn] at this
                  exact this
                · rw [if_neg hfree, if_pos rfl, if_pos rfl, bs, if_neg (n15 (at' + 1) (by omega))]
                  exact ⟨_, _, rfl, rfl, Or.inr ⟨at' + 1, by omega, rfl, rfl⟩⟩
              · rw [if_neg hl2, if_pos rfl]
                by_cases hb1 : b < 49
                · rw [if_pos (show nI b < (49 : Int32) from nI_lt (a := b) (b := 49) hb1 (by decide)), bs, if_neg (n15 (at' + 1) (by omega))]
                  exact ⟨_, _, rfl, rfl, Or.inr ⟨at' + 1, by omega, rfl, rfl⟩⟩
                · rw [if_neg (show ¬ nI b < (49 : Int32) from nI_nlt (a := b) (b := 49) (by omega) (by omega)), if_pos (nI_le (a := 49 + n) (b := b) (by omega) (by omega)), bs, if_neg (n15 (at' + 1) (by omega))]
                  exact ⟨_, _, rfl, rfl, Or.inr ⟨at' + 1, by omega, rfl, rfl⟩⟩
          · rw [if_neg hl, if_pos rfl]
            by_cases ha1 : a < 97
            · rw [bs, if_pos (show nI a < (97 : Int32) from nI_lt (a := a) (b := 97) ha1 (by decide)), bs, if_neg (n15 at' (by omega))]
              exact ⟨_, _, rfl, rfl, Or.inr ⟨at', by omega, rfl, rfl⟩⟩
            · rw [bs, if_neg (show ¬ nI a < (97 : Int32) from nI_nlt (a := a) (b := 97) (by omega) (by omega)), bs, if_neg (fun z => by have := (lt97 (by omega) (by omega)).mp z; omega), bs, if_neg (n15 at' (by omega))]
              exact ⟨_, _, rfl, rfl, Or.inr ⟨at', by omega, rfl, rfl⟩⟩
      · rw [if_neg hvic]
        refine ⟨(nI at', nI M, nI M, (st n f M).1, (st n f M).2, f), (nI at', (st n f M).1, (st n f M).2, nI M, told), ?_, rfl, Or.inr ⟨at', by omega, rfl, rfl⟩⟩
        by_cases hS1 : nI a = (83 : Int32)
        · rw [if_pos hS1, bs, bs, if_neg hvic, bs, if_neg (n15 at' (by omega))]
        · rw [if_neg hS1, bs, bs, if_neg hvic, bs, if_neg (n15 at' (by omega))]
theorem text_eq {n : Nat} (hn : 2 ≤ n ∧ n ≤ 7) {near : Nat → Int64} (hN : Near n near) {c : Nat} (hc : c ≤ 100) {xt yt : Nat → Int32} (ht : ∀ k, k < c → ∃ a, a < 128 ∧ xt k = nI a ∧ yt k = nI a) (list told : Nat → Int32) : ∃ ox oy, m_X5_tryText (nI c) list xt (B_size (bdn n)) (B_cells (bdn n)) (B_all (bdn n)) (B_upper (bdn n)) (B_lower (bdn n)) (B_left (bdn n)) (B_right (bdn n)) = some ox ∧ m_X6_faultOf (nI n) (nI c) near yt told = some oy ∧ TX n ox oy :=
  text_loop hn hN hc ht c c 0 0 FU 0 list told 0 (Nat.le_refl c) (by omega) (Nat.le_refl 0) (FU_ge (by omega)) (fun k hk => absurd hk (by omega)) (fun k hk => absurd hk (by omega)) (fun h => absurd h (by omega))
theorem neg15 {q : Nat} (hq : q ≤ 100) : ¬ nI q = (-15 : Int32) := fun e => by
  have h2 := nI_toInt (n := q) (by omega)
  rw [e] at h2
  have : (-15 : Int32).toInt = -15 := rfl
  omega
theorem s_faultPosition : S_faultPosition InvR := by
  rintro x b y t0 t1 ⟨n, m, K, hn, rfl, ⟨g1, g2, g3, g4, g5, g6, g7, g8, g9, g10, g11, g12⟩, hN, hT, ⟨c, hc, e1, e2, ht⟩, h0, h1⟩
  have h50 := K_le hn g7
  obtain ⟨ox, oy, r1, r2, hTX⟩ := text_eq hn hN hc ht (X_o_trial_list x) (Y_o_told y)
  have hgo := m_goes hn (f := X_o_game_list x) (g := Y_o_game y) (m := m) (by omega) (fun k hk => g8 k (by omega))
  unfold m_X5_faultPosition m_X6_faultPosition m_X6_faultAside
  rw [e1, e2, g1, g3, r1, r2, bs, bs, hgo, bs, bs]
  have fin : ∀ z : Int32, ox.1 = z → ∃ (ox' : Int32 × Int32 × Int32 × Int64 × Int64 × (Nat → Int32)) (oy' : Int32 × Int64 × Int64 × Int32 × (Nat → Int32)), some (ox.1, ox.2.1, ox.2.2.1, ox.2.2.2.1, ox.2.2.2.2.1, ox.2.2.2.2.2) = some ox' ∧ some (z, (st n (X_o_game_list x) m).1, (st n (X_o_game_list x) m).2, oy.2.2.2.1, oy.2.2.2.2) = some oy' ∧ ox'.1 = oy'.1 ∧ InvR ((X_o_threatCount x), nI c, (X_o_game_board x), (X_o_game_made x), (X_o_game_known x), (X_o_game_stones0 x), (X_o_game_stones1 x), (X_o_game_list x), (X_o_game_board x), ox'.2.1, ox'.2.2.1, ox'.2.2.2.1, ox'.2.2.2.2.1, ox'.2.2.2.2.2, (X_o_slots x), (X_o_paths_layers x), (X_o_table_count x), (X_o_table_wins x), (X_o_contest_board x), (X_o_contest_from x), (X_o_contest_to x), (X_o_contest_spots x), (X_o_contest_memo x), (X_o_foundBridges x), (X_o_threatPlayers x), (X_o_threatRegions x), (X_o_text x)) (bdn n) (nI n, (Y_o_all y), nI m, oy'.2.1, oy'.2.2.1, (Y_o_threatMany y), nI c, (Y_o_holes y), oy'.2.2.2.1, (Y_o_game y), (Y_o_near y), (Y_o_kept y), (Y_o_isKept y), (Y_o_threatOf y), (Y_o_threatSet y), (Y_o_text y), (Y_o_far y), (Y_o_back y), (Y_o_hole y), (Y_o_isWon y), (Y_o_won y), (Y_o_lasts y), (Y_o_power y), oy'.2.2.2.2) t0 t1 :=
    fun z hz => ⟨_, _, rfl, rfl, hz, n, m, K, hn, rfl, ⟨rfl, g2, rfl, g4, g5, g6, g7, g8, g9, g10, rfl, rfl⟩, hN, hT, ⟨c, hc, rfl, rfl, ht⟩, h0, h1⟩
  rcases hTX with ⟨a1, a2, -⟩ | ⟨q, hq, a1, a2⟩
  · rw [if_neg (show ¬ (0 : Int32) ≤ oy.1 by rw [a2]; decide)]
    exact fin (-15) a1
  · rw [if_pos (show (0 : Int32) ≤ oy.1 by rw [a2]; exact nI_pos' (by omega))]
    exact fin oy.1 (by rw [a1, a2])
theorem read_loop {n : Nat} (hn : 2 ≤ n ∧ n ≤ 7) {M : Nat} (hM : M ≤ 50) {f told : Nat → Int32} (ht : ∀ k, k < M → told k = f k) (al ma tm : Int32) (w0 w1 : Int64) : ∀ (d i fuel : Nat) (g : Nat → Int32), i + d = M → d + 1 ≤ fuel → (∀ k, k < i → g k = f k) → ∃ g', m_X6_read_c12 (nI n) fuel (nI i) al ma w0 w1 tm (nI M) g told = some (nI M, nI M, nI M, (st n f M).1, (st n f M).2, 0, nI M, g', told) ∧ ∀ k, k < M → g' k = f k := by
  intro d
  induction d with
  | zero =>
    intro i fuel g hi hf hg
    obtain ⟨fu, rfl⟩ : ∃ f, fuel = f + 1 := ⟨fuel - 1, by omega⟩
    have e : i = M := by omega
    subst e
    refine ⟨g, ?_, hg⟩
    rw [m_X6_read_c12, if_pos (nI_le (Nat.le_refl _) (by omega)), m_goes hn (f := f) (by omega) hg]
    rfl
  | succ d ih =>
    intro i fuel g hi hf hg
    obtain ⟨fu, rfl⟩ : ∃ f, fuel = f + 1 := ⟨fuel - 1, by omega⟩
    rw [m_X6_read_c12, if_neg (nI_ge (a := i) (b := M) (by omega) (by omega)), if_pos (okI_nI (by omega) (by decide)), if_pos (okI_nI (by omega) (by decide)), nI_clamp (by omega), nI_1]
    refine ih (i + 1) fu _ (by omega) (by omega) (fun k hk => ?_)
    by_cases z : k = i
    · subst z; rw [upd_at]; exact ht k (by omega)
    · rw [upd_ne _ _ z]; exact hg k (by omega)
theorem s_read : S_read InvR := by
  rintro x b y t0 t1 ⟨n, m, K, hn, rfl, ⟨g1, g2, g3, g4, g5, g6, g7, g8, g9, g10, g11, g12⟩, hN, hT, ⟨c, hc, e1, e2, ht⟩, h0, h1⟩
  have h50 := K_le hn g7
  obtain ⟨ox, oy, r1, r2, hTX⟩ := text_eq hn hN hc ht (X_o_trial_list x) (Y_o_told y)
  have hgo := m_goes hn (f := X_o_game_list x) (g := Y_o_game y) (m := m) (by omega) (fun k hk => g8 k (by omega))
  unfold m_X5_read m_X6_read m_X6_faultAside
  rw [e1, e2, g1, g3, r1, r2, bs, bs, hgo, bs, bs]
  rcases hTX with ⟨a1, a2, M, f, hv, a3, a4, a5⟩ | ⟨q, hq, a1, a2⟩
  · rw [if_pos a1, if_pos (show oy.1 < (0 : Int32) by rw [a2]; decide), a3, a4]
    have hM := K_le hn hv
    obtain ⟨gg, hg, hgk⟩ := x_copy (X_o_game_list x) f (nI M) (nI M) (st n f M).1 (st n f M).2
    obtain ⟨g', rr, hg'⟩ := read_loop hn hM a5 (Y_o_all y) (nI m) (Y_o_threatMany y) (st n (X_o_game_list x) m).1 (st n (X_o_game_list x) m).2 M 0 FU (Y_o_game y) (by omega) (FU_ge (by omega)) (fun k hk => absurd hk (by omega))
    rw [show m_X3_copyFrom (X_o_game_list x) (nI M, nI M, (st n f M).1, (st n f M).2, f).1 (nI M, nI M, (st n f M).1, (st n f M).2, f).2.1 (nI M, nI M, (st n f M).1, (st n f M).2, f).2.2.1 (nI M, nI M, (st n f M).1, (st n f M).2, f).2.2.2.1 (nI M, nI M, (st n f M).1, (st n f M).2, f).2.2.2.2 = some (nI M, nI M, (st n f M).1, (st n f M).2, gg) from hg, bs]
    have eg : st n gg M = st n f M := st_congr M (fun k hk => hgk k (by omega))
    refine ⟨_, _, rfl, rr, rfl, n, M, M, hn, rfl, ⟨rfl, rfl, rfl, rfl, rfl, Nat.le_refl M, valid_congr (fun k hk => hgk k (by omega)) hv, fun k hk => ?_, ?_, ?_, ?_, ?_⟩, hN, ⟨0, by omega, rfl, rfl, fun k hk => absurd hk (by omega)⟩, ⟨c, hc, rfl, rfl, ht⟩, h0, h1⟩
    · show g' k = gg k
      rw [hg' k hk, hgk k (by omega)]
    · show (st n f M).1 = (st n gg M).1
      rw [eg]
    · show (st n f M).2 = (st n gg M).2
      rw [eg]
    · show (st n f M).1 = (st n gg M).1
      rw [eg]
    · show (st n f M).2 = (st n gg M).2
      rw [eg]
  · rw [if_neg (show ¬ ox.1 = (-15 : Int32) by rw [a1]; exact neg15 hq), if_neg (show ¬ oy.1 < (0 : Int32) by rw [a2]; exact nI_pos (by omega))]
    exact ⟨_, _, rfl, rfl, rfl, n, m, K, hn, rfl, ⟨rfl, g2, rfl, g4, g5, g6, g7, g8, g9, g10, rfl, rfl⟩, hN, hT, ⟨c, hc, rfl, rfl, ht⟩, h0, h1⟩

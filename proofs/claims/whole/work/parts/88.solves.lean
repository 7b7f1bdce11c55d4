/-! the reference's solving -/
theorem asc_inj : ∀ {lo : Nat} {l : List Nat}, Asc lo l → ∀ (a b x : Nat), l[a]? = some x → l[b]? = some x → a = b := by
  intro lo l
  induction l generalizing lo with
  | nil => intro _ a b c h1 _; simp at h1
  | cons z t ih =>
    intro hA a b c h1 h2
    obtain ⟨a1, a2, a3⟩ := hA
    have hmm : ∀ k : Nat, t[k]? = some c → z < c := fun k hk => by
      have := (Asc_ge a3 c (List.mem_of_getElem? hk)).1
      omega
    cases a with
    | zero =>
      cases b with
      | zero => rfl
      | succ b =>
        rw [List.getElem?_cons_succ] at h2
        have := hmm b h2
        rw [List.getElem?_cons_zero] at h1
        have : z = c := Option.some.inj h1
        omega
    | succ a =>
      cases b with
      | zero =>
        rw [List.getElem?_cons_succ] at h1
        have := hmm a h1
        rw [List.getElem?_cons_zero] at h2
        have : z = c := Option.some.inj h2
        omega
      | succ b =>
        rw [List.getElem?_cons_succ] at h1 h2
        rw [ih a3 a b c h1 h2]
theorem fun_of {lo : Nat} {l : List Nat} (hA : Asc lo l) (g : Nat → Nat) : ∃ F : Nat → Nat, (∀ (i x : Nat), l[i]? = some x → F x = g i) := by
  refine ⟨fun x => g (Classical.epsilon (fun i : Nat => l[i]? = some x)), fun i x hx => ?_⟩
  have := Classical.epsilon_spec (p := fun i : Nat => l[i]? = some x) ⟨i, hx⟩
  show g (Classical.epsilon (fun i : Nat => l[i]? = some x)) = g i
  rw [asc_inj hA _ i x this hx]
def LI (lasts : Nat → Int32) : Prop := ∀ c, c < 19683 → ∃ L, lasts c = nI L ∧ L + nzn 9 c ≤ 9
theorem LI_upd {lasts : Nat → Int32} (h : LI lasts) {c L : Nat} (hL : L + nzn 9 c ≤ 9) : LI (upd lasts c (nI L)) := by
  intro c' hc'
  by_cases q : c' = c
  · subst q; exact ⟨L, upd_at _ _ _, hL⟩
  · rw [upd_ne _ _ q]; exact h c' hc'
theorem nzn9 {h c : Nat} (hh : h ≤ 9) (hc : c < 3 ^ h) : nzn 9 c = nzn h c := by
  have := nzn_ext h (9 - h) c hc
  rw [show h + (9 - h) = 9 by omega] at this
  exact this
theorem vl_half {n : Nat} {fr to : Int64} {l : List Nat} {own0 : Int64} {conn0 : Bool} {k c : Nat} (hl : l.length ≤ 9) (hc : c < 3 ^ l.length) : vl n fr to l own0 conn0 k c / 2 + nzn 9 c ≤ 9 := by
  have := G_le n fr to l (l.length - nzn l.length c) (own0 ||| dep3 k l c) (dep3 0 l c) (cn conn0 (nzn l.length c))
  have h2 := nzn_le l.length c
  rw [nzn9 hl hc]
  unfold vl
  omega
theorem compl3 {n : Nat} (hn : 2 ≤ n ∧ n ≤ 7) {s0 s1 : Int64} (h0 : sub s0 (full n)) (h1 : sub s1 (full n)) (hd : ∀ k, tb s0 k = true → tb s1 k = false) (c : Nat) : full n &&& ((s0 ||| dep3 1 (HL n (m_X3_free s0 s1 (full n))) c ||| dep3 0 (HL n (m_X3_free s0 s1 (full n))) c) ^^^ (-1)) = s1 ||| dep3 2 (HL n (m_X3_free s0 s1 (full n))) c := by
  have hA : Asc 0 (HL n (m_X3_free s0 s1 (full n))) := hl_asc _ _ _
  have hset := HL_set hn (free_sub hn s0 s1)
  generalize HL n (m_X3_free s0 s1 (full n)) = l at *
  apply tb_ext
  intro k hk
  have hf := tb_free hn s0 s1 hk
  rw [tb_and, tb_not _ hk, tb_or, tb_or, tb_or, tb_full hn hk]
  by_cases q : k ∈ l
  · obtain ⟨i, -, hi⟩ := getElem_ex q
    have ht : tb (m_X3_free s0 s1 (full n)) k = true := by rw [← hset]; exact (tb_setof hA k).mpr q
    rw [ht] at hf
    have hdg := dg_lt c i
    rw [tb_dep3 0 hA c i k hi, tb_dep3 1 hA c i k hi, tb_dep3 2 hA c i k hi]
    have h3 : dg c i = 0 ∨ dg c i = 1 ∨ dg c i = 2 := by omega
    cases e0 : tb s0 k <;> cases e1 : tb s1 k <;> simp [e0, e1] at hf
    rcases h3 with e | e | e <;> rw [e] <;> simp [hf]
  · have ht : tb (m_X3_free s0 s1 (full n)) k = false := by
      cases z : tb (m_X3_free s0 s1 (full n)) k
      · rfl
      · rw [← hset] at z; exact absurd ((tb_setof hA k).mp z) q
    have hz : ∀ j, tb (dep3 j l c) k = false := fun j => by
      cases z : tb (dep3 j l c) k
      · rfl
      · exact absurd ((tb_setof hA k).mp (dep3_sub j hA c k z)) q
    rw [hz, hz, hz]
    rw [ht] at hf
    have a0 := h0 k
    have a1 := h1 k
    have a2 := hd k
    rw [tb_full hn hk] at a0 a1
    revert a0 a1 a2 hf
    generalize tb s0 k = x
    generalize tb s1 k = y
    generalize decide (k < n * n) = z
    cases x <;> cases y <;> cases z <;> simp
def V0 (n : Nat) (s0 s1 : Int64) (m c : Nat) : Nat := vl n (B_upper (bdn n)) (B_lower (bdn n)) (HL n (m_X3_free s0 s1 (full n))) s0 (decide (m % 2 = 0)) 1 c
def TV (V : Nat → Nat) (h p : Nat) (won lasts : Nat → Int32) : Prop := ∀ c, c < 3 ^ h → won c = nI (wo p (bt (V c))) ∧ lasts c = nI (V c / 2)
theorem cn_turn (m e : Nat) : wo 0 (cn (decide (m % 2 = 0)) e) = (m + e) % 2 := by
  unfold wo cn
  by_cases a : m % 2 = 0 <;> by_cases b : e % 2 = 0 <;> simp [a, b] <;> omega
theorem dec_m1 (k : Nat) : nI k + (-1) = nI k - 1 := by rw [Int32.sub_eq_add_neg]
theorem vl_won {n : Nat} {fr to : Int64} {l : List Nat} {own0 : Int64} {conn0 : Bool} {k c : Nat} (h : lk n (own0 ||| dep3 k l c) fr to = true) : vl n fr to l own0 conn0 k c = 1 := by
  unfold vl
  cases hd : l.length - nzn l.length c with
  | zero => rw [G, if_pos h]
  | succ d => rw [G, if_pos h]
theorem vl_lost {n : Nat} {fr to : Int64} {l : List Nat} {own0 : Int64} {conn0 : Bool} {k c : Nat} (h : lk n (own0 ||| dep3 k l c) fr to = false) (h' : lk n (own0 ||| dep3 k l c ||| dep3 0 l c) fr to = false) : vl n fr to l own0 conn0 k c = 0 := by
  unfold vl
  cases hd : l.length - nzn l.length c with
  | zero => rw [G, if_neg (by rw [h]; decide)]
  | succ d => rw [G, if_neg (by rw [h]; decide), if_pos h']
theorem solves_loop {n : Nat} (hn : 2 ≤ n ∧ n ≤ 7) {near : Nat → Int64} (hN : Near n near) {s0 s1 : Int64} (h0 : sub s0 (full n)) (h1 : sub s1 (full n)) (hd : ∀ k, tb s0 k = true → tb s1 k = false) {m : Nat} (hm : m ≤ 60) {l : List Nat} (el : l = HL n (m_X3_free s0 s1 (full n))) (hl : l.length ≤ 9) {hole power : Nat → Int32} (hS : Sto l hole) (hp : PWR power) : ∀ (d fuel : Nat) (won lasts : Nat → Int32), d ≤ 3 ^ l.length → d + 1 ≤ fuel → (∀ c, d ≤ c → c < 3 ^ l.length → won c = nI (wo 0 (bt (V0 n s0 s1 m c))) ∧ lasts c = nI (V0 n s0 s1 m c / 2)) → LI lasts → ∃ won' lasts', m_X6_solves_c35 (nI n) (nI m) s0 s1 near fuel (nI d - 1) (nI l.length) hole won lasts power = some (1, nI l.length, hole, won', lasts', power) ∧ TV (V0 n s0 s1 m) l.length 0 won' lasts' ∧ LI lasts' := by
  have h19 := p39 hl
  have hA : Asc 0 l := by rw [el]; exact hl_asc _ _ _
  have hset : setof l = m_X3_free s0 s1 (full n) := by rw [el]; exact HL_set hn (free_sub hn s0 s1)
  have hlf : sub (setof l) (full n) := by rw [hset]; exact free_sub hn s0 s1
  intro d
  induction d with
  | zero =>
    intro fuel won lasts hle hf hT hL
    obtain ⟨fu, rfl⟩ : ∃ f, fuel = f + 1 := ⟨fuel - 1, by omega⟩
    refine ⟨won, lasts, ?_, fun c hc => hT c (Nat.zero_le _) hc, hL⟩
    rw [m_X6_solves_c35, if_pos (show nI 0 - (1 : Int32) < 0 by decide)]
  | succ c ih =>
    intro fuel won lasts hle hf hT hL
    obtain ⟨fu, rfl⟩ : ∃ f, fuel = f + 1 := ⟨fuel - 1, by omega⟩
    have hso : sub (s0 ||| dep3 1 l c) (full n) := or_sub h0 (sub_trans (dep3_sub 1 hA c) hlf)
    have hs2 : sub (s1 ||| dep3 2 l c) (full n) := or_sub h1 (sub_trans (dep3_sub 2 hA c) hlf)
    have hsf : sub (s0 ||| dep3 1 l c ||| dep3 0 l c) (full n) := or_sub hso (sub_trans (dep3_sub 0 hA c) hlf)
    have hhex := hex hn hsf
    rw [el, compl3 hn h0 h1 hd c, ← el] at hhex
    have l0 : m_X6_laid s0 s1 (nI l.length) power hole (nI c) 0 = some (s0 ||| dep3 1 l c) := m_laid (p := 0) hp hS hl (c := c) (by omega) (by decide) s0 s1
    have l1 : m_X6_laid s0 s1 (nI l.length) power hole (nI c) 1 = some (s1 ||| dep3 2 l c) := m_laid (p := 1) hp hS hl (c := c) (by omega) (by decide) s0 s1
    have eV : ∀ c, V0 n s0 s1 m c = vl n (B_upper (bdn n)) (B_lower (bdn n)) l s0 (decide (m % 2 = 0)) 1 c := fun c => by rw [el]; rfl
    have put : ∀ (won1 lasts1 : Nat → Int32), won1 = upd won c (nI (wo 0 (bt (V0 n s0 s1 m c)))) → lasts1 = upd lasts c (nI (V0 n s0 s1 m c / 2)) → ∃ won' lasts', m_X6_solves_c115 (m_X6_solves_c35 (nI n) (nI m) s0 s1 near fu) (nI c) (nI l.length) hole won1 lasts1 power = some (1, nI l.length, hole, won', lasts', power) ∧ TV (V0 n s0 s1 m) l.length 0 won' lasts' ∧ LI lasts' := by
      intro won1 lasts1 e1 e2
      unfold m_X6_solves_c115
      rw [dec_m1]
      refine ih fu won1 lasts1 (by omega) (by omega) (fun c' h1 h2 => ?_) ?_
      · by_cases q : c' = c
        · subst q; rw [e1, e2, upd_at, upd_at]; exact ⟨rfl, rfl⟩
        · rw [e1, e2, upd_ne _ _ q, upd_ne _ _ q]; exact hT c' (by omega) h2
      · rw [e2]
        refine LI_upd hL ?_
        rw [eV]
        exact vl_half hl (by omega)
    have ok : okI (nI c) 19683 = true := okI_nI (by omega) (by decide)
    rw [m_X6_solves_c35, nI_pred, if_neg (nI_pos (by omega)), l0, bs, m_wins0 hn hN hso, bs]
    cases w0 : tbw n (s0 ||| dep3 1 l c) with
    | true =>
      rw [if_neg (show ¬ (if true = true then (1 : Int32) else 0) = 0 by decide)]
      unfold m_X6_solves_c76
      rw [if_neg (show ¬ (0 : Int32) < 0 by decide), if_pos ok, if_pos ok, nI_clamp (by omega)]
      have e : V0 n s0 s1 m c = 1 := by rw [eV]; exact vl_won w0
      exact put _ _ (by rw [e]; rfl) (by rw [e]; rfl)
    | false =>
      rw [if_pos (show (if false = true then (1 : Int32) else 0) = 0 by decide), l1, bs, m_wins1 hn hN hs2, bs, hhex]
      cases w1 : tbw n (s0 ||| dep3 1 l c ||| dep3 0 l c) with
      | false =>
        rw [if_neg (show ¬ (if (!false) = true then (1 : Int32) else 0) = 0 by decide)]
        unfold m_X6_solves_c76
        rw [if_neg (show ¬ (1 : Int32) < 0 by decide), if_pos ok, if_pos ok, nI_clamp (by omega)]
        have e : V0 n s0 s1 m c = 0 := by rw [eV]; exact vl_lost w0 w1
        exact put _ _ (by rw [e]; rfl) (by rw [e]; rfl)
      | true =>
        rw [if_pos (show (if (!true) = true then (1 : Int32) else 0) = 0 by decide)]
        unfold m_X6_solves_c76
        rw [if_pos (show (-1 : Int32) < 0 by decide), m_many hp hl (by omega), bs]
        have hnz : nzn l.length c < l.length := by
          have := nzn_le l.length c
          rcases Nat.lt_or_ge (nzn l.length c) l.length with q | q
          · exact q
          · exfalso
            rw [(dep3_pc hA c).mpr (by omega), or_zero] at w1
            rw [w0] at w1
            cases w1
        have hnzl := nzn_le l.length c
        rw [nI_add, irem2 (by omega), ← cn_turn m (nzn l.length c)]
        obtain ⟨F, hF⟩ := fun_of hA (fun i => V0 n s0 s1 m (c + (wo 0 (cn (decide (m % 2 = 0)) (nzn l.length c)) + 1) * 3 ^ i))
        have hwl := wo_lt (p := 0) (by decide) (cn (decide (m % 2 = 0)) (nzn l.length c))
        have hbst := vl_step (n := n) (fr := B_upper (bdn n)) (to := B_lower (bdn n)) hA (own0 := s0) (conn0 := decide (m % 2 = 0)) (k := 1) (c := c) (Or.inl rfl) hnz w0 w1 F (fun i x hx h0 => by
          rw [hF i x hx, eV]
          have : wo 0 (cn (decide (m % 2 = 0)) (nzn l.length c)) + 1 = if cn (decide (m % 2 = 0)) (nzn l.length c) = true then 1 else 3 - 1 := by
            unfold wo; split <;> rfl
          rw [this])
        rw [m_decides hp hA hl (c := c) (p := 0) (by omega) (by decide) (cn (decide (m % 2 = 0)) (nzn l.length c)) F (fun i x hx h0 => by
          have hi := (List.getElem?_eq_some_iff.mp hx).1
          have hlt := code_lt (k := wo 0 (cn (decide (m % 2 = 0)) (nzn l.length c)) + 1) (by omega) hi h0 (c := c) (m := l.length) (by omega)
          have hgt : c < c + (wo 0 (cn (decide (m % 2 = 0)) (nzn l.length c)) + 1) * 3 ^ i := by
            have := Nat.pow_pos (n := i) (show 0 < 3 by decide)
            have := Nat.mul_pos (show 0 < wo 0 (cn (decide (m % 2 = 0)) (nzn l.length c)) + 1 by omega) this
            omega
          have hvl := vl_le (n := n) (fr := B_upper (bdn n)) (to := B_lower (bdn n)) (own0 := s0) (conn0 := decide (m % 2 = 0)) (k := 1) (c := c + (wo 0 (cn (decide (m % 2 = 0)) (nzn l.length c)) + 1) * 3 ^ i) hl
          rw [hF i x hx]
          refine ⟨?_, hT _ (by omega) hlt⟩
          rw [eV]; omega) hbst, bs]
        exact put _ _ (by rw [eV]) (by rw [eV])
theorem m_solves {n : Nat} (hn : 2 ≤ n ∧ n ≤ 7) {near : Nat → Int64} (hN : Near n near) {s0 s1 : Int64} (h0 : sub s0 (full n)) (h1 : sub s1 (full n)) (hd : ∀ k, tb s0 k = true → tb s1 k = false) {m : Nat} (hm : m ≤ 60) (hole won lasts power : Nat → Int32) (hL : LI lasts) : (9 < pc (m_X3_free s0 s1 (full n)) ∧ ∃ hole', m_X6_solves (nI n) (nI m) s0 s1 near hole won lasts power = some (0, nI (pc (m_X3_free s0 s1 (full n))), hole', won, lasts, power)) ∨ (pc (m_X3_free s0 s1 (full n)) ≤ 9 ∧ ∃ hole' won' lasts' power', m_X6_solves (nI n) (nI m) s0 s1 near hole won lasts power = some (1, nI (pc (m_X3_free s0 s1 (full n))), hole', won', lasts', power') ∧ Sto (HL n (m_X3_free s0 s1 (full n))) hole' ∧ PWR power' ∧ TV (V0 n s0 s1 m) (pc (m_X3_free s0 s1 (full n))) 0 won' lasts' ∧ LI lasts') := by
  obtain ⟨hole', e1, hS⟩ := m_findHoles hn (free_sub hn s0 s1) hole
  have hpl := pc_le (m_X3_free s0 s1 (full n))
  unfold m_X6_solves
  rw [free_eq hn, e1, bs]
  by_cases q : pc (m_X3_free s0 s1 (full n)) ≤ 9
  · right
    refine ⟨q, ?_⟩
    obtain ⟨power', e2, hp⟩ := m_powers power
    have hlen := HL_len hn (free_sub hn s0 s1)
    obtain ⟨won', lasts', e3, hT, hL'⟩ := solves_loop hn hN h0 h1 hd hm rfl (by omega) hS hp (3 ^ (HL n (m_X3_free s0 s1 (full n))).length) FU won lasts (Nat.le_refl _) (by
      have := p39 (z := (HL n (m_X3_free s0 s1 (full n))).length) (by omega)
      exact FU_ge (by omega)) (fun c h1 h2 => absurd h1 (by omega)) hL
    rw [hlen] at e3 hT
    rw [if_pos (show nI (pc (m_X3_free s0 s1 (full n))) ≤ (9 : Int32) from nI_le (b := 9) q (by decide)), e2, bs, if_pos (okI_nI (by omega) (by decide)), nI_clamp (by omega), hp _ (by omega)]
    exact ⟨hole', won', lasts', power', e3, hS, hp, hT, hL'⟩
  · left
    refine ⟨by omega, hole', ?_⟩
    rw [if_neg (show ¬ nI (pc (m_X3_free s0 s1 (full n))) ≤ (9 : Int32) from nI_ge (a := 9) (by omega) (by omega))]

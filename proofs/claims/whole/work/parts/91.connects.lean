/-! connecting within a region -/
theorem lk_mono {n : Nat} (hn : 2 ≤ n ∧ n ≤ 7) {w v a b : Int64} (hv : sub v (full n)) (h : sub w v) (hl : lk n w a b = true) : lk n v a b = true := by
  rw [lk_iff] at hl ⊢
  obtain ⟨k, h1, h2⟩ := hl
  exact ⟨k, cl_mono hn (sub_trans h hv) hv h k h1, h2⟩
theorem lk_anti {n : Nat} (hn : 2 ≤ n ∧ n ≤ 7) {w v a b : Int64} (hv : sub v (full n)) (h : sub w v) (hl : lk n v a b = false) : lk n w a b = false := by
  cases z : lk n w a b
  · rfl
  · rw [lk_mono hn hv h z] at hl; cases hl
theorem bt_btr {b v : Nat} {conn : Bool} : bt (btr b v conn) = conn ↔ bt b = conn ∨ bt v = conn := by
  unfold btr
  by_cases q : bt b = bt v
  · rw [if_pos q]
    by_cases z : bt v = conn
    · rw [if_pos z]
      split
      · exact ⟨fun _ => Or.inr z, fun _ => z⟩
      · exact ⟨fun _ => Or.inr z, fun _ => by rw [q]; exact z⟩
    · rw [if_neg z]
      split
      · exact ⟨fun h => absurd h z, fun h => by
          rcases h with h | h
          · rw [← q]; exact h
          · exact h⟩
      · exact ⟨fun h => Or.inl h, fun h => by
          rcases h with h | h
          · exact h
          · exact absurd h z⟩
  · rw [if_neg q]
    by_cases z : bt v = conn
    · rw [if_pos z]; exact ⟨fun _ => Or.inr z, fun _ => z⟩
    · rw [if_neg z]
      exact ⟨fun h => Or.inl h, fun h => by
        rcases h with h | h
        · exact h
        · exact absurd h z⟩
theorem bst_par {conn : Bool} {F : Nat → Nat} {free : Int64} : ∀ (l : List Nat) (acc : Option Nat) (v : Nat), bst conn F free l acc = some v → (bt v = conn ↔ (∃ a, acc = some a ∧ bt a = conn) ∨ ∃ x, x ∈ l ∧ tb free x = true ∧ bt (F x) = conn)
  | [], acc, v, h => by
    have e : acc = some v := h
    subst e
    constructor
    · intro w; exact Or.inl ⟨v, rfl, w⟩
    · rintro (⟨a, e, w⟩ | ⟨x, w, -⟩)
      · rw [Option.some.inj e]; exact w
      · cases w
  | x :: t, acc, v, h => by
    unfold bst at h
    have hb2 : bt (2 + F x) = bt (F x) := by unfold bt; rw [show (2 + F x) % 2 = F x % 2 by omega]
    rw [bst_par t _ v h]
    by_cases q : tb free x = true
    · rw [if_pos q]
      have e : (∃ a, ost conn acc (2 + F x) = some a ∧ bt a = conn) ↔ (∃ a, acc = some a ∧ bt a = conn) ∨ bt (F x) = conn := by
        cases acc with
        | none =>
          constructor
          · rintro ⟨a, e, w⟩
            have e2 : 2 + F x = a := Option.some.inj e
            rw [← e2, hb2] at w
            exact Or.inr w
          · rintro (⟨a, e, -⟩ | w)
            · cases e
            · exact ⟨2 + F x, rfl, by rw [hb2]; exact w⟩
        | some b =>
          constructor
          · rintro ⟨a, e, w⟩
            have e2 : btr b (2 + F x) conn = a := Option.some.inj e
            rw [← e2, bt_btr, hb2] at w
            rcases w with w | w
            · exact Or.inl ⟨b, rfl, w⟩
            · exact Or.inr w
          · intro w
            refine ⟨btr b (2 + F x) conn, rfl, ?_⟩
            rw [bt_btr, hb2]
            rcases w with ⟨a, e, w⟩ | w
            · rw [Option.some.inj e]; exact Or.inl w
            · exact Or.inr w
      rw [e]
      constructor
      · rintro ((w | w) | ⟨y, y1, y2⟩)
        · exact Or.inl w
        · exact Or.inr ⟨x, List.mem_cons_self .., q, w⟩
        · exact Or.inr ⟨y, List.mem_cons_of_mem _ y1, y2⟩
      · rintro (w | ⟨y, y1, y2, y3⟩)
        · exact Or.inl (Or.inl w)
        · rcases List.mem_cons.mp y1 with e | e
          · subst e; exact Or.inl (Or.inr y3)
          · exact Or.inr ⟨y, e, y2, y3⟩
    · rw [if_neg q]
      constructor
      · rintro (w | ⟨y, y1, y2⟩)
        · exact Or.inl w
        · exact Or.inr ⟨y, List.mem_cons_of_mem _ y1, y2⟩
      · rintro (w | ⟨y, y1, y2, y3⟩)
        · exact Or.inl w
        · rcases List.mem_cons.mp y1 with e | e
          · subst e; exact absurd y2 q
          · exact Or.inr ⟨y, e, y2, y3⟩
/-- whoever is to move wins where one of the next positions is won -/
theorem vl_par {n : Nat} (hn : 2 ≤ n ∧ n ≤ 7) {fr to : Int64} {lo : Nat} {l : List Nat} (hA : Asc lo l) (hlf : sub (setof l) (full n)) {own0 : Int64} (hown : sub own0 (full n)) {conn0 : Bool} {k c : Nat} (hk : k = 1 ∨ k = 2) (hnz : nzn l.length c < l.length) : (bt (vl n fr to l own0 conn0 k c) = cn conn0 (nzn l.length c)) ↔ ∃ i x : Nat, l[i]? = some x ∧ dg c i = 0 ∧ bt (vl n fr to l own0 conn0 k (c + (if cn conn0 (nzn l.length c) = true then k else 3 - k) * 3 ^ i)) = cn conn0 (nzn l.length c) := by
  have hso : sub (own0 ||| dep3 k l c) (full n) := or_sub hown (sub_trans (dep3_sub k hA c) hlf)
  have hsf : sub (own0 ||| dep3 k l c ||| dep3 0 l c) (full n) := or_sub hso (sub_trans (dep3_sub 0 hA c) hlf)
  obtain ⟨i0, hi0, h00⟩ := nzn_zero _ _ hnz
  have hx0 : l[i0]? = some l[i0] := List.getElem?_eq_getElem hi0
  have hkk : (if cn conn0 (nzn l.length c) = true then k else 3 - k) = 1 ∨ (if cn conn0 (nzn l.length c) = true then k else 3 - k) = 2 := by split <;> omega
  generalize hK : (if cn conn0 (nzn l.length c) = true then k else 3 - k) = kv at hkk ⊢
  have nexts : ∀ i x : Nat, l[i]? = some x → dg c i = 0 → sub (own0 ||| dep3 k l c) (own0 ||| dep3 k l (c + kv * 3 ^ i)) ∧ sub (own0 ||| dep3 k l (c + kv * 3 ^ i) ||| dep3 0 l (c + kv * 3 ^ i)) (own0 ||| dep3 k l c ||| dep3 0 l c) := by
    intro i x hx h0
    have hx64 := (Asc_ge hA x (List.mem_of_getElem? hx)).2
    have hfx : sub (jshl 1 (nI x)) (dep3 0 l c) := fun z hz => by
      rw [tb_one hx64 (tb_lt64 hz)] at hz
      rw [of_decide_eq_true hz, tb_dep3 0 hA c i x hx, h0]
      rfl
    have m0 := dep3_move hA hx h0 hkk 0
    have m1 := dep3_move hA hx h0 hkk k
    rw [if_pos rfl] at m0
    rw [if_neg (show ¬ k = 0 by omega)] at m1
    rw [m0, m1]
    constructor
    · refine or_sub (sub_or_l _ _) ?_
      split
      · exact sub_trans (sub_or_l _ _) (sub_or_r _ _)
      · exact sub_or_r _ _
    · refine or_sub (or_sub ?_ ?_) ?_
      · exact sub_trans (sub_or_l _ _) (sub_or_l _ _)
      · split
        · exact or_sub (sub_trans (sub_or_r _ _) (sub_or_l _ _)) (sub_trans hfx (sub_or_r _ _))
        · exact sub_trans (sub_or_r _ _) (sub_or_l _ _)
      · exact sub_trans (and_sub_l _ _) (sub_or_r _ _)
  have hfull : ∀ c', sub (own0 ||| dep3 k l c') (full n) := fun c' => or_sub hown (sub_trans (dep3_sub k hA c') hlf)
  cases h1 : lk n (own0 ||| dep3 k l c) fr to with
  | true =>
    have e : vl n fr to l own0 conn0 k c = 1 := vl_won h1
    have all : ∀ i x : Nat, l[i]? = some x → dg c i = 0 → vl n fr to l own0 conn0 k (c + kv * 3 ^ i) = 1 := fun i x hx h0 => vl_won (lk_mono hn (hfull _) (nexts i x hx h0).1 h1)
    rw [e]
    constructor
    · intro h; exact ⟨i0, _, hx0, h00, by rw [all i0 _ hx0 h00]; exact h⟩
    · rintro ⟨i, x, hx, h0, h⟩; rw [all i x hx h0] at h; exact h
  | false =>
    cases h2 : lk n (own0 ||| dep3 k l c ||| dep3 0 l c) fr to with
    | false =>
      have e : vl n fr to l own0 conn0 k c = 0 := vl_lost h1 h2
      have all : ∀ i x : Nat, l[i]? = some x → dg c i = 0 → vl n fr to l own0 conn0 k (c + kv * 3 ^ i) = 0 := fun i x hx h0 => vl_lost (lk_anti hn hsf (sub_trans (sub_or_l _ _) (nexts i x hx h0).2) h2) (lk_anti hn hsf (nexts i x hx h0).2 h2)
      rw [e]
      constructor
      · intro h; exact ⟨i0, _, hx0, h00, by rw [all i0 _ hx0 h00]; exact h⟩
      · rintro ⟨i, x, hx, h0, h⟩; rw [all i x hx h0] at h; exact h
    | true =>
      obtain ⟨F, hF⟩ := fun_of hA (fun i => vl n fr to l own0 conn0 k (c + kv * 3 ^ i))
      have hb := vl_step (n := n) (fr := fr) (to := to) hA (own0 := own0) (conn0 := conn0) (k := k) (c := c) hk hnz h1 h2 F (fun i x hx _ => by rw [hK]; exact hF i x hx)
      rw [bst_par l none _ hb]
      constructor
      · rintro (⟨a, e, -⟩ | ⟨x, x1, x2, x3⟩)
        · cases e
        · obtain ⟨i, hi, hx⟩ := getElem_ex x1
          rw [tb_dep3 0 hA c i x hx] at x2
          exact ⟨i, x, hx, of_decide_eq_true x2, by rw [hF i x hx] at x3; exact x3⟩
      · rintro ⟨i, x, hx, h0, h⟩
        exact Or.inr ⟨x, List.mem_of_getElem? hx, by rw [tb_dep3 0 hA c i x hx, h0]; rfl, by rw [hF i x hx]; exact h⟩
theorem LI_at {lasts : Nat → Int32} (h : LI lasts) {c : Nat} (hc : c < 19683) : lasts c = nI (lasts c).toNatClampNeg ∧ (lasts c).toNatClampNeg + nzn 9 c ≤ 9 := by
  obtain ⟨L, e, hL⟩ := h c hc
  rw [e, nI_clamp (by omega)]
  exact ⟨rfl, hL⟩
theorem cn_first {g p e : Nat} (hg : g < 2) (hp : p < 2) : wo p (cn (decide (g = p)) e) = (g + e) % 2 := by
  unfold wo cn
  have : (g = 0 ∨ g = 1) ∧ (p = 0 ∨ p = 1) := by omega
  obtain ⟨rfl | rfl, rfl | rfl⟩ := this <;> by_cases b : e % 2 = 0 <;> simp [b] <;> omega
theorem con_loop {n : Nat} (hn : 2 ≤ n ∧ n ≤ 7) {near : Nat → Int64} (hN : Near n near) {s0 s1 : Int64} {p g : Nat} (hp2 : p < 2) (hg : g < 2) (hown : sub (m_X3_stonesOf s0 s1 (nI p)) (full n)) {p2 p3 : Int32} {fr to : Int64} (hfr : m_X6_place (nI n) p2 = some fr) (hto : m_X6_place (nI n) p3 = some to) {lo : Nat} {l : List Nat} (hA : Asc lo l) (hl : l.length ≤ 9) (hlf : sub (setof l) (full n)) {hole power : Nat → Int32} (hS : Sto l hole) (hp : PWR power) : ∀ (d fuel : Nat) (won lasts : Nat → Int32), d ≤ 3 ^ l.length → d + 1 ≤ fuel → (∀ c, d ≤ c → c < 3 ^ l.length → won c = nI (wo p (bt (vl n fr to l (m_X3_stonesOf s0 s1 (nI p)) (decide (g = p)) (p + 1) c)))) → LI lasts → ∃ won' lasts', m_X6_connects_c23 (nI n) s0 s1 near (nI p) p2 p3 (nI g) fuel (nI d - 1) (nI l.length) hole won lasts power = some (bi (bt (vl n fr to l (m_X3_stonesOf s0 s1 (nI p)) (decide (g = p)) (p + 1) 0)), nI l.length, hole, won', lasts', power) ∧ LI lasts' := by
  have h19 := p39 hl
  generalize hV : (fun c => vl n fr to l (m_X3_stonesOf s0 s1 (nI p)) (decide (g = p)) (p + 1) c) = V
  have eV : ∀ c, vl n fr to l (m_X3_stonesOf s0 s1 (nI p)) (decide (g = p)) (p + 1) c = V c := fun c => by rw [← hV]
  intro d
  induction d with
  | zero =>
    intro fuel won lasts hle hf hT hL
    obtain ⟨fu, rfl⟩ : ∃ f, fuel = f + 1 := ⟨fuel - 1, by omega⟩
    refine ⟨won, lasts, ?_, hL⟩
    have hw := hT 0 (Nat.zero_le _) (Nat.pow_pos (by decide))
    rw [m_X6_connects_c23, if_pos (show nI 0 - (1 : Int32) < 0 by decide), show (0 : Int32).toNatClampNeg = 0 from rfl, hw]
    have h1 := wo_lt hp2 (bt (vl n fr to l (m_X3_stonesOf s0 s1 (nI p)) (decide (g = p)) (p + 1) 0))
    cases z : bt (vl n fr to l (m_X3_stonesOf s0 s1 (nI p)) (decide (g = p)) (p + 1) 0)
    · rw [if_neg (show ¬ nI (wo p false) = nI p from fun w => by
        rw [z] at h1
        have := (nI_eq (by omega) (by omega)).mp w
        unfold wo at this
        rw [if_neg (by decide)] at this
        omega)]
      rfl
    · rw [if_pos (show nI (wo p true) = nI p from rfl)]
      rfl
  | succ c ih =>
    intro fuel won lasts hle hf hT hL
    obtain ⟨fu, rfl⟩ : ∃ f, fuel = f + 1 := ⟨fuel - 1, by omega⟩
    have hso : sub (m_X3_stonesOf s0 s1 (nI p) ||| dep3 (p + 1) l c) (full n) := or_sub hown (sub_trans (dep3_sub (p + 1) hA c) hlf)
    have hnl := nzn_le l.length c
    have n9 := nzn9 hl (c := c) (by omega)
    have ok : okI (nI c) 19683 = true := okI_nI (by omega) (by decide)
    rw [m_X6_connects_c23, nI_pred, if_neg (nI_pos (by omega)), m_many hp hl (by omega), bs]
    unfold m_X6_connects_c85 m_X6_connects_c102
    rw [dec_m1]
    by_cases q : nzn l.length c = l.length
    · rw [if_pos (show nI (nzn l.length c) = nI l.length by rw [q]), hfr, bs, m_laid hp hS hl (by omega) hp2, bs, m_reach hn hN hso, bs, hto, bs]
      have ev : vl n fr to l (m_X3_stonesOf s0 s1 (nI p)) (decide (g = p)) (p + 1) c = if lk n (m_X3_stonesOf s0 s1 (nI p) ||| dep3 (p + 1) l c) fr to = true then 1 else 0 := by
        unfold vl
        rw [q, Nat.sub_self, G]
      have put : ∀ w : Int32, w = nI (wo p (bt (vl n fr to l (m_X3_stonesOf s0 s1 (nI p)) (decide (g = p)) (p + 1) c))) → ∃ won' lasts', (if okI (nI c) 19683 = true then m_X6_connects_c23 (nI n) s0 s1 near (nI p) p2 p3 (nI g) fu (nI c - 1) (nI l.length) hole (upd won (nI c).toNatClampNeg w) lasts power else none) = some (bi (bt (vl n fr to l (m_X3_stonesOf s0 s1 (nI p)) (decide (g = p)) (p + 1) 0)), nI l.length, hole, won', lasts', power) ∧ LI lasts' := by
        intro w hw
        rw [if_pos ok, nI_clamp (by omega)]
        refine ih fu _ lasts (by omega) (by omega) (fun c' h1 h2 => ?_) hL
        by_cases z : c' = c
        · subst z; rw [upd_at]; exact hw
        · rw [upd_ne _ _ z]; exact hT c' (by omega) h2
      by_cases z : cl n fr (m_X3_stonesOf s0 s1 (nI p) ||| dep3 (p + 1) l c) &&& to = 0
      · have e : lk n (m_X3_stonesOf s0 s1 (nI p) ||| dep3 (p + 1) l c) fr to = false := by unfold lk; rw [decide_eq_true z]; rfl
        rw [if_pos z]
        apply put
        rw [ev, e, if_neg (by decide)]
        have : p = 0 ∨ p = 1 := by omega
        rcases this with rfl | rfl <;> decide
      · have e : lk n (m_X3_stonesOf s0 s1 (nI p) ||| dep3 (p + 1) l c) fr to = true := by unfold lk; rw [decide_eq_false z]; rfl
        rw [if_neg z]
        apply put
        rw [ev, e, if_pos rfl]
        rfl
    · have hnz : nzn l.length c < l.length := by omega
      rw [if_neg (fun w => q ((nI_eq (by omega) (by omega)).mp w)), nI_add, irem2 (by omega), ← cn_first hg hp2]
      have hkk : wo p (cn (decide (g = p)) (nzn l.length c)) + 1 = if cn (decide (g = p)) (nzn l.length c) = true then p + 1 else 3 - (p + 1) := by
        unfold wo; split <;> omega
      have hwl := wo_lt hp2 (cn (decide (g = p)) (nzn l.length c))
      have hpar := vl_par hn (fr := fr) (to := to) hA hlf hown (conn0 := decide (g = p)) (k := p + 1) (c := c) (by omega) hnz
      rw [← hkk] at hpar
      generalize hcn : cn (decide (g = p)) (nzn l.length c) = conn at *
      obtain ⟨F, hF⟩ := fun_of hA (fun i => 2 * (lasts (c + (wo p conn + 1) * 3 ^ i)).toNatClampNeg + (if bt (V (c + (wo p conn + 1) * 3 ^ i)) = true then 1 else 0))
      have nx : ∀ (i x : Nat), l[i]? = some x → dg c i = 0 → bt (F x) = bt (V (c + (wo p conn + 1) * 3 ^ i)) ∧ F x / 2 = (lasts (c + (wo p conn + 1) * 3 ^ i)).toNatClampNeg ∧ 2 + F x ≤ 2 * (9 - nzn 9 c) + 1 ∧ won (c + (wo p conn + 1) * 3 ^ i) = nI (wo p (bt (V (c + (wo p conn + 1) * 3 ^ i)))) ∧ lasts (c + (wo p conn + 1) * 3 ^ i) = nI (lasts (c + (wo p conn + 1) * 3 ^ i)).toNatClampNeg := by
        intro i x hx h0
        have hi := (List.getElem?_eq_some_iff.mp hx).1
        have hlt := code_lt (k := wo p conn + 1) (by omega) hi h0 (c := c) (m := l.length) (by omega)
        have hgt : c < c + (wo p conn + 1) * 3 ^ i := by
          have := Nat.pow_pos (n := i) (show 0 < 3 by decide)
          have := Nat.mul_pos (show 0 < wo p conn + 1 by omega) this
          omega
        have hn1 := nzn_add (k := wo p conn + 1) (by omega) hi h0
        have n9' := nzn9 hl hlt
        obtain ⟨L1, L2⟩ := LI_at hL (c := c + (wo p conn + 1) * 3 ^ i) (by omega)
        rw [hF i x hx]
        refine ⟨?_, ?_, ?_, ?_, L1⟩
        · unfold bt
          rw [decide_eq_decide]
          by_cases w : V (c + (wo p conn + 1) * 3 ^ i) % 2 = 1
          · simp [w]
          · simp [w]
        · split <;> omega
        · split <;> omega
        · rw [← eV]; exact hT _ (by omega) hlt
      have hne : bst conn F (dep3 0 l c) l none ≠ none := by
        apply bst_some
        right
        obtain ⟨i, hi, h0⟩ := nzn_zero _ _ hnz
        have hx : l[i]? = some l[i] := List.getElem?_eq_getElem hi
        exact ⟨l[i], List.getElem_mem hi, by rw [tb_dep3 0 hA c i _ hx, h0]; rfl⟩
      cases hb : bst conn F (dep3 0 l c) l none with
      | none => exact absurd hb hne
      | some v =>
        have hbv : bt v = bt (V c) := by
          have h1 := bst_par l none v hb
          have h2 : (bt v = conn) ↔ (bt (V c) = conn) := by
            rw [h1, ← eV c, hpar]
            constructor
            · rintro (⟨a, e, -⟩ | ⟨x, x1, x2, x3⟩)
              · cases e
              · obtain ⟨i, hi, hx⟩ := getElem_ex x1
                rw [tb_dep3 0 hA c i x hx] at x2
                have h0 := of_decide_eq_true x2
                exact ⟨i, x, hx, h0, by rw [eV, ← (nx i x hx h0).1]; exact x3⟩
            · rintro ⟨i, x, hx, h0, h⟩
              exact Or.inr ⟨x, List.mem_of_getElem? hx, by rw [tb_dep3 0 hA c i x hx, h0]; rfl, by rw [(nx i x hx h0).1, ← eV]; exact h⟩
          cases h3 : bt v <;> cases h4 : bt (V c) <;> cases h5 : conn <;> simp_all
        have hvle := bst_le (M := 2 * (9 - nzn 9 c) + 1) l none (fun b hb => by cases hb) (fun x x1 x2 => by
          obtain ⟨i, hi, hx⟩ := getElem_ex x1
          rw [tb_dep3 0 hA c i x hx] at x2
          exact (nx i x hx (of_decide_eq_true x2)).2.2.1) v hb
        rw [m_decides hp hA hl (c := c) (p := p) (by omega) hp2 conn F (fun i x hx h0 => by
          obtain ⟨a1, a2, a3, a4, a5⟩ := nx i x hx h0
          refine ⟨by omega, ?_, ?_⟩
          · rw [a1]; exact a4
          · rw [a2]; exact a5) hb, bs]
        refine ih fu _ _ (by omega) (by omega) (fun c' h1 h2 => ?_) (LI_upd hL (by omega))
        by_cases z : c' = c
        · subst z
          rw [eV, ← hbv]
          exact upd_at _ _ _
        · show upd won c _ c' = _
          rw [upd_ne _ _ z]; exact hT c' (by omega) h2
theorem vl_root {n : Nat} {fr to : Int64} {lo : Nat} {l : List Nat} (hA : Asc lo l) {own0 : Int64} {conn0 : Bool} {k : Nat} (hk : k ≠ 0) : vl n fr to l own0 conn0 k 0 = vl n fr to l own0 conn0 1 0 := by
  unfold vl
  rw [(dep3_root hA).2 k hk, (dep3_root hA).2 1 (by decide)]
/-- what both answer -/
def can (n : Nat) (fr to own0 P : Int64) (conn0 : Bool) : Bool := bt (vl n fr to (HL n P) own0 conn0 1 0)
theorem m_connects {n : Nat} (hn : 2 ≤ n ∧ n ≤ 7) {near : Nat → Int64} (hN : Near n near) {s0 s1 : Int64} {p g : Nat} (hp2 : p < 2) (hg : g < 2) (hown : sub (m_X3_stonesOf s0 s1 (nI p)) (full n)) {p2 p3 : Int32} {fr to : Int64} (hfr : m_X6_place (nI n) p2 = some fr) (hto : m_X6_place (nI n) p3 = some to) {P : Int64} (hP : sub P (full n)) (hc : pc P ≤ 9) (hole won lasts power : Nat → Int32) (hL : LI lasts) : ∃ hole' won' lasts' power', m_X6_connects (nI n) s0 s1 near hole won lasts power (nI p) p2 p3 P (nI g) = some (bi (can n fr to (m_X3_stonesOf s0 s1 (nI p)) P (decide (g = p))), nI (pc P), hole', won', lasts', power') ∧ LI lasts' := by
  obtain ⟨hole', e1, hS⟩ := m_findHoles hn hP hole
  obtain ⟨power', e2, hp⟩ := m_powers power
  have hlen := HL_len hn hP
  have hA : Asc 0 (HL n P) := hl_asc _ _ _
  obtain ⟨won', lasts', e3, hL'⟩ := con_loop hn hN hp2 hg hown hfr hto hA (by omega) (by rw [HL_set hn hP]; exact hP) hS hp (3 ^ (HL n P).length) FU won lasts (Nat.le_refl _) (by
    have := p39 (z := (HL n P).length) (by omega)
    exact FU_ge (by omega)) (fun c h1 h2 => absurd h1 (by omega)) hL
  rw [hlen, vl_root hA (by omega)] at e3
  unfold m_X6_connects
  rw [e1, bs, e2, bs, if_pos (okI_nI (by omega) (by decide)), nI_clamp (by omega), hp _ (by omega)]
  exact ⟨hole', won', lasts', power', e3, hL'⟩
theorem x_can {n : Nat} (hn : 2 ≤ n ∧ n ≤ 7) {s0 s1 : Int64} {p : Int32} (hown : sub (m_X3_stonesOf s0 s1 p) (full n)) (p2 p3 : Int32) {P : Int64} (hP : sub P (full n)) (hc : pc P ≤ 9) (conn0 : Bool) (spots memo : Nat → Int64) : ∃ spots' memo', m_X5_canConnect s0 s1 spots memo (B_size (bdn n)) (B_cells (bdn n)) (B_all (bdn n)) (B_upper (bdn n)) (B_lower (bdn n)) (B_left (bdn n)) (B_right (bdn n)) p p2 p3 P (bi conn0) = some (bi (can n (m_X0_cellsOf (B_upper (bdn n)) (B_lower (bdn n)) (B_left (bdn n)) (B_right (bdn n)) p2) (m_X0_cellsOf (B_upper (bdn n)) (B_lower (bdn n)) (B_left (bdn n)) (B_right (bdn n)) p3) (m_X3_stonesOf s0 s1 p) P conn0), m_X0_cellsOf (B_upper (bdn n)) (B_lower (bdn n)) (B_left (bdn n)) (B_right (bdn n)) p2, m_X0_cellsOf (B_upper (bdn n)) (B_lower (bdn n)) (B_left (bdn n)) (B_right (bdn n)) p3, spots', memo') := by
  unfold m_X5_canConnect
  generalize m_X0_cellsOf (B_upper (bdn n)) (B_lower (bdn n)) (B_left (bdn n)) (B_right (bdn n)) p2 = fr
  generalize m_X0_cellsOf (B_upper (bdn n)) (B_lower (bdn n)) (B_left (bdn n)) (B_right (bdn n)) p3 = to
  have hlen := HL_len hn hP
  have hset := HL_set hn hP
  have hA : Asc 0 (HL n P) := hl_asc _ _ _
  obtain ⟨spots', memo', a1, a2, a3⟩ := x_set hn hP hc fr to spots memo
  obtain ⟨memo2, b1, -⟩ := x_result hn (fr := fr) (to := to) (own0 := m_X3_stonesOf s0 s1 p) (l := HL n P) hA (by omega) (by rw [hset]; exact hP) hown a2 conn0 (a3 _ _)
  have hvl := vl_le (n := n) (fr := fr) (to := to) (l := HL n P) (own0 := m_X3_stonesOf s0 s1 p) (conn0 := conn0) (k := 1) (c := 0) (by omega)
  rw [hset] at b1
  rw [a1, bs, b1, bs, x_connects (by omega)]
  exact ⟨spots', memo2, rfl⟩
/-! places and regions -/
theorem nI_nneg {j : Nat} (hj : j < 2 ^ 31) {q : Int32} (hq : q < 0) : ¬ nI j = q := fun e => by
  rw [← e] at hq
  exact absurd hq (nI_pos hj)
theorem place_cases {n : Nat} (hn : 2 ≤ n ∧ n ≤ 7) (p : Int32) : (m_X5_isPlace (B_cells (bdn n)) p = 0 ∧ m_X6_isPlace (nI n) p = 0) ∨ (m_X5_isPlace (B_cells (bdn n)) p = 1 ∧ m_X6_isPlace (nI n) p = 1 ∧ m_X6_place (nI n) p = some (m_X0_cellsOf (B_upper (bdn n)) (B_lower (bdn n)) (B_left (bdn n)) (B_right (bdn n)) p)) := by
  have h49 := nn_lt hn
  have h0 : 0 < n * n := Nat.mul_pos (by omega) (by omega)
  unfold m_X5_isPlace m_X6_isPlace
  rw [bd_cells hn, pk_mul]
  obtain ⟨d1, d2, d3, d4⟩ := m_edge hn
  rcases pk_ix p (n := n * n) (by omega) with h | h | ⟨j, hj, rfl⟩
  · by_cases q : p < -4
    · left
      rw [if_pos q]
      exact ⟨rfl, in_out (Or.inl q)⟩
    · right
      have hni : ¬ nI (n * n) ≤ p := fun w => by
        rw [Int32.le_iff_toInt_le, nI_toInt (by omega)] at w
        rw [Int32.lt_iff_toInt_lt, show (0 : Int32).toInt = 0 from rfl] at h
        omega
      have hni2 : ¬ nI (n * n) - 1 < p := fun w => by
        rw [nI_m1 h0, Int32.lt_iff_toInt_lt, nI_toInt (by omega)] at w
        rw [Int32.lt_iff_toInt_lt, show (0 : Int32).toInt = 0 from rfl] at h
        omega
      refine ⟨by rw [if_neg q, if_neg hni], in_in q hni2, ?_⟩
      have h4 : p = -4 ∨ p = -3 ∨ p = -2 ∨ p = -1 := by
        rw [Int32.lt_iff_toInt_lt, show (-4 : Int32).toInt = -4 from rfl] at q
        rw [Int32.lt_iff_toInt_lt, show (0 : Int32).toInt = 0 from rfl] at h
        have : p.toInt = -4 ∨ p.toInt = -3 ∨ p.toInt = -2 ∨ p.toInt = -1 := by omega
        rcases this with e | e | e | e
        · exact Or.inl (Int32.toInt_inj.mp e)
        · exact Or.inr (Or.inl (Int32.toInt_inj.mp e))
        · exact Or.inr (Or.inr (Or.inl (Int32.toInt_inj.mp e)))
        · exact Or.inr (Or.inr (Or.inr (Int32.toInt_inj.mp e)))
      unfold m_X6_place
      rcases h4 with rfl | rfl | rfl | rfl
      · rw [if_neg (by decide), show (-1 : Int32) - (-4) = 3 by decide, d4]; rfl
      · rw [if_neg (by decide), show (-1 : Int32) - (-3) = 2 by decide, d3]; rfl
      · rw [if_neg (by decide), show (-1 : Int32) - (-2) = 1 by decide, d2]; rfl
      · rw [if_neg (by decide), show (-1 : Int32) - (-1) = 0 by decide, d1]; rfl
  · left
    refine ⟨?_, in_out (Or.inr (m1_lt h0 (by omega) h))⟩
    rw [if_pos h]
    split <;> rfl
  · right
    have h31 : j < 2 ^ 31 := by omega
    have hn4 : ¬ nI j < -4 := fun w => by
      rw [Int32.lt_iff_toInt_lt, nI_toInt h31, show (-4 : Int32).toInt = -4 from rfl] at w
      omega
    refine ⟨by rw [if_neg hn4, if_neg (nI_ge hj (by omega))], ?_, ?_⟩
    · rw [nI_m1 h0]
      exact in_in hn4 (nI_nlt (by omega) (by omega))
    · unfold m_X6_place m_X0_cellsOf
      rw [if_pos (nI_pos' h31), if_neg (nI_nneg h31 (by decide)), if_neg (nI_nneg h31 (by decide)), if_neg (nI_nneg h31 (by decide)), if_neg (nI_nneg h31 (by decide))]
theorem sub_iff {a b : Int64} : a &&& (b ^^^ (-1)) = 0 ↔ sub a b := by
  rw [and_eq_zero]
  constructor
  · intro h k hk
    cases z : tb b k
    · exact absurd (h k hk (by rw [tb_not _ (tb_lt64 hk), z]; rfl)) id
    · rfl
  · intro h k h1 h2
    rw [tb_not _ (tb_lt64 h1), h k h1] at h2
    cases h2
theorem region_cases {n : Nat} (hn : 2 ≤ n ∧ n ≤ 7) (s0 s1 : Int64) (P : Int64) {L : Nat} (hL : L < 100) : ((if (P &&& ((m_X3_free s0 s1 (full n)) ^^^ (-1))) = 0 then (if (m_J13_bitCount_95d88 P) ≤ nI L then (0 : Int32) else (-12)) else (-12)) = -12 ∧ m_X6_isRegion (nI n) s0 s1 P (nI L) = some 0) ∨ ((if (P &&& ((m_X3_free s0 s1 (full n)) ^^^ (-1))) = 0 then (if (m_J13_bitCount_95d88 P) ≤ nI L then (0 : Int32) else (-12)) else (-12)) = 0 ∧ m_X6_isRegion (nI n) s0 s1 P (nI L) = some 1 ∧ sub P (m_X3_free s0 s1 (full n)) ∧ pc P ≤ L) := by
  have hpl := pc_le P
  unfold m_X6_isRegion
  rw [free_eq hn]
  by_cases q : P &&& ((m_X3_free s0 s1 (full n)) ^^^ (-1)) = 0
  · rw [if_pos q, if_pos q, bitcount, m_size, bs]
    by_cases z : pc P ≤ L
    · right
      rw [if_pos (nI_le z (by omega)), if_neg (nI_nlt z (by omega))]
      exact ⟨rfl, rfl, sub_iff.mp q, z⟩
    · left
      rw [if_neg (nI_ge (show L < pc P by omega) (by omega)), if_pos (nI_lt (show L < pc P by omega) (by omega))]
      exact ⟨rfl, rfl⟩
  · left
    rw [if_neg q, if_neg q]
    exact ⟨rfl, rfl⟩
theorem error_cases {n : Nat} (hn : 2 ≤ n ∧ n ≤ 7) (s0 s1 : Int64) (p1 p2 p3 : Int32) (P : Int64) {L : Nat} (hL : L < 100) : (m_X5_regionError s0 s1 (B_cells (bdn n)) (B_all (bdn n)) p1 p2 p3 P (nI L) = -11 ∧ m_X6_arePlaces (nI n) p1 p2 p3 = 0) ∨ (m_X6_arePlaces (nI n) p1 p2 p3 = 1 ∧ ((m_X5_regionError s0 s1 (B_cells (bdn n)) (B_all (bdn n)) p1 p2 p3 P (nI L) = -12 ∧ m_X6_isRegion (nI n) s0 s1 P (nI L) = some 0) ∨ (m_X5_regionError s0 s1 (B_cells (bdn n)) (B_all (bdn n)) p1 p2 p3 P (nI L) = 0 ∧ m_X6_isRegion (nI n) s0 s1 P (nI L) = some 1 ∧ sub P (m_X3_free s0 s1 (full n)) ∧ pc P ≤ L ∧ (∃ p, p < 2 ∧ p1 = nI p) ∧ m_X6_place (nI n) p2 = some (m_X0_cellsOf (B_upper (bdn n)) (B_lower (bdn n)) (B_left (bdn n)) (B_right (bdn n)) p2) ∧ m_X6_place (nI n) p3 = some (m_X0_cellsOf (B_upper (bdn n)) (B_lower (bdn n)) (B_left (bdn n)) (B_right (bdn n)) p3)))) := by
  unfold m_X5_regionError m_X6_arePlaces
  rcases player_cases p1 with ⟨a1, a2⟩ | ⟨a1, a2, a3⟩
  · left; rw [a1, a2, if_pos rfl, if_pos rfl]; exact ⟨rfl, rfl⟩
  · rw [a1, a2, if_neg one_nz, if_neg one_nz]
    rcases place_cases hn p2 with ⟨b1, b2⟩ | ⟨b1, b2, b3⟩
    · left; rw [b1, b2, if_pos rfl, if_pos rfl]; exact ⟨rfl, rfl⟩
    · rw [b1, b2, if_neg one_nz, if_neg one_nz]
      rcases place_cases hn p3 with ⟨c1, c2⟩ | ⟨c1, c2, c3⟩
      · left; rw [c1, c2, if_pos rfl, if_pos rfl]; exact ⟨rfl, rfl⟩
      · rw [c1, c2, if_neg one_nz, if_neg one_nz]
        by_cases e : p2 = p3
        · left; rw [if_pos e, if_pos e]; exact ⟨rfl, rfl⟩
        · right
          rw [if_neg e, if_neg e]
          refine ⟨rfl, ?_⟩
          rcases region_cases hn s0 s1 P hL with d | ⟨d1, d2, d3, d4⟩
          · exact Or.inl d
          · refine Or.inr ⟨d1, d2, d3, d4, ?_, b3, c3⟩
            rcases a3 with rfl | rfl
            · exact ⟨0, by decide, rfl⟩
            · exact ⟨1, by decide, rfl⟩
theorem own_full {n : Nat} {s0 s1 : Int64} (h0 : sub s0 (full n)) (h1 : sub s1 (full n)) (p : Int32) : sub (m_X3_stonesOf s0 s1 p) (full n) := by
  unfold m_X3_stonesOf
  split
  · exact h0
  · exact h1
theorem one_minus {p : Nat} (hp : p < 2) : (1 : Int32) - nI p = nI (1 - p) := by
  have : p = 0 ∨ p = 1 := by omega
  rcases this with rfl | rfl <;> decide
theorem other_ne {p : Nat} (hp : p < 2) : decide (1 - p = p) = false := decide_eq_false (by omega)
theorem s_strength : S_strength InvL := by
  rintro x b y t0 t1 ⟨⟨n, m, K, hn, rfl, ⟨g1, g2, g3, g4, g5, g6, g7, g8, g9, g10, g11, g12⟩, hN, hR⟩, hL⟩ p1 p2 p3 p4
  obtain ⟨q1, q2, q3, -⟩ := st_ok hn g7 m g6
  suffices h : ∃ (ox : Int32 × Nat × Int64 × Int64 × (Nat → Int64) × (Nat → Int64)) (oy : Int32 × Int32 × (Nat → Int32) × (Nat → Int32) × (Nat → Int32) × (Nat → Int32)), m_X5_strength (X_o_game_board x) (X_o_game_stones0 x) (X_o_game_stones1 x) (X_o_contest_board x) (X_o_contest_from x) (X_o_contest_to x) (X_o_contest_spots x) (X_o_contest_memo x) (B_size (bdn n)) (B_cells (bdn n)) (B_all (bdn n)) (B_upper (bdn n)) (B_lower (bdn n)) (B_left (bdn n)) (B_right (bdn n)) p1 p2 p3 p4 = some ox ∧ m_X6_strength (Y_o_n y) (Y_o_own0 y) (Y_o_own1 y) (Y_o_holes y) (Y_o_near y) (Y_o_hole y) (Y_o_won y) (Y_o_lasts y) (Y_o_power y) p1 p2 p3 p4 = some oy ∧ ox.1 = oy.1 ∧ LI oy.2.2.2.2.1 by
    obtain ⟨ox, oy, e1, e2, e3, e4⟩ := h
    exact ⟨ox, oy, e1, e2, e3, ⟨n, m, K, hn, rfl, ⟨g1, g2, g3, g4, g5, g6, g7, g8, g9, g10, g11, g12⟩, hN, hR⟩, e4⟩
  rw [g1, g9, g10, g11, g12]
  generalize (st n (X_o_game_list x) m).1 = s0 at *
  generalize (st n (X_o_game_list x) m).2 = s1 at *
  unfold m_X5_strength m_X6_strength
  rw [jl]
  rcases error_cases hn s0 s1 p1 p2 p3 p4 (L := 8) (by decide) with ⟨a1, a2⟩ | ⟨a2, ⟨a1, a3⟩ | ⟨a1, a3, hP, hc, ⟨p, hp2, rfl⟩, hfr, hto⟩⟩
  · rw [show m_X5_regionError s0 s1 (B_cells (bdn n)) (B_all (bdn n)) p1 p2 p3 p4 8 = -11 from a1, if_neg (by decide), a2, if_pos rfl]
    exact ⟨_, _, rfl, rfl, rfl, hL⟩
  · rw [show m_X5_regionError s0 s1 (B_cells (bdn n)) (B_all (bdn n)) p1 p2 p3 p4 8 = -12 from a1, if_neg (by decide), a2, if_neg one_nz, show m_X6_isRegion (nI n) s0 s1 p4 8 = some 0 from a3, bs, if_pos rfl]
    exact ⟨_, _, rfl, rfl, rfl, hL⟩
  · rw [show m_X5_regionError s0 s1 (B_cells (bdn n)) (B_all (bdn n)) (nI p) p2 p3 p4 8 = 0 from a1, if_pos (by decide), a2, if_neg one_nz, show m_X6_isRegion (nI n) s0 s1 p4 8 = some 1 from a3, bs, if_neg one_nz]
    have hown := own_full q1 q2 (nI p)
    have hPf := sub_trans hP (free_sub hn s0 s1)
    obtain ⟨sp1, me1, c1⟩ := x_can hn hown p2 p3 hPf (by omega) false (X_o_contest_spots x) (X_o_contest_memo x)
    obtain ⟨sp2, me2, c2⟩ := x_can hn hown p2 p3 hPf (by omega) true sp1 me1
    obtain ⟨h1, w1, l1, pw1, d1, L1⟩ := m_connects hn hN hp2 (g := 1 - p) (by omega) hown hfr hto hPf (by omega) (Y_o_hole y) (Y_o_won y) (Y_o_lasts y) (Y_o_power y) hL
    obtain ⟨h2, w2, l2, pw2, d2, L2⟩ := m_connects hn hN hp2 (g := p) hp2 hown hfr hto hPf (by omega) h1 w1 l1 pw1 L1
    rw [other_ne hp2] at d1
    rw [decide_eq_true rfl] at d2
    unfold m_X6_strengthOf
    rw [show m_X5_canConnect s0 s1 (X_o_contest_spots x) (X_o_contest_memo x) (B_size (bdn n)) (B_cells (bdn n)) (B_all (bdn n)) (B_upper (bdn n)) (B_lower (bdn n)) (B_left (bdn n)) (B_right (bdn n)) (nI p) p2 p3 p4 0 = _ from c1, bs, one_minus hp2, d1, bs]
    generalize m_X0_cellsOf (B_upper (bdn n)) (B_lower (bdn n)) (B_left (bdn n)) (B_right (bdn n)) p2 = fr at *
    generalize m_X0_cellsOf (B_upper (bdn n)) (B_lower (bdn n)) (B_left (bdn n)) (B_right (bdn n)) p3 = to at *
    cases z : can n fr to (m_X3_stonesOf s0 s1 (nI p)) p4 false
    · rw [if_pos (show bi false = 0 by decide), if_pos (show bi false = 0 by decide)]
      rw [show m_X5_canConnect s0 s1 sp1 me1 (B_size (bdn n)) (B_cells (bdn n)) (B_all (bdn n)) (B_upper (bdn n)) (B_lower (bdn n)) (B_left (bdn n)) (B_right (bdn n)) (nI p) p2 p3 p4 1 = _ from c2, bs, d2, bs]
      cases w : can n fr to (m_X3_stonesOf s0 s1 (nI p)) p4 true
      · rw [if_pos (show bi false = 0 by decide), if_pos (show bi false = 0 by decide), bs]
        exact ⟨_, _, rfl, rfl, rfl, L2⟩
      · rw [if_neg (show ¬ bi true = 0 by decide), if_neg (show ¬ bi true = 0 by decide), bs]
        exact ⟨_, _, rfl, rfl, rfl, L2⟩
    · rw [if_neg (show ¬ bi true = 0 by decide), if_neg (show ¬ bi true = 0 by decide), bs]
      exact ⟨_, _, rfl, rfl, rfl, L1⟩

/-! the class's search -/
def enc : Option Nat → Int32
  | none => -1
  | some b => nI b
abbrev OC : Type := Int64 → Int64 → (Nat → Int64) → (Nat → Int64) → Int32 → Int32 → Int64 → Int64 → Int64 → Int64 → Int64 → Int32 → Int32 → Int32 → Option (Int32 × (Nat → Int64))
theorem bi_not (b : Bool) : (if bi b = 0 then (1 : Int32) else 0) = bi (!b) := by cases b <;> decide
theorem best_loop {n : Nat} {fr to own free : Int64} {spots : Nat → Int64} {lo : Nat} {l : List Nat} (hA : Asc lo l) (hl : l.length ≤ 9) (hsp : ∀ z, z < 9 → spots z = sp l z) {c e : Nat} (he : e < 9) (hfree : free = dep3 0 l c) (hc : c < 19683) (conn : Bool) (oc : OC) (F : Nat → Nat) (hF : ∀ x, F x < 100) (MOK : (Nat → Int64) → Prop) (hoc : ∀ (i x : Nat), l[i]? = some x → dg c i = 0 → ∀ memo, MOK memo → ∃ memo', oc fr to spots memo (B_size (bdn n)) (B_cells (bdn n)) (B_all (bdn n)) (B_left (bdn n)) (B_right (bdn n)) (if conn = true then own ||| jshl 1 (nI x) else own) (free &&& (jshl 1 (nI x) ^^^ (-1))) (bi (!conn)) (nI (c + (if conn = true then 1 else 2) * 3 ^ i)) (nI (e + 1)) = some (nI (F x), memo') ∧ MOK memo') : ∀ (d i fuel : Nat) (acc : Option Nat) (memo : Nat → Int64), i + d = 9 → d + 1 ≤ fuel → (∀ b, acc = some b → b ≤ 200) → MOK memo → ∃ memo', m_X1_bestOutcome_c18 fr to spots (B_size (bdn n)) (B_cells (bdn n)) (B_all (bdn n)) (B_left (bdn n)) (B_right (bdn n)) own free (bi conn) (nI c) (nI e) oc fuel (enc acc) (if conn = true then 1 else 2) (nI i) memo = some (enc (bst conn F free (l.drop i) acc), memo') ∧ MOK memo' := by
  intro d
  induction d with
  | zero =>
    intro i fuel acc memo hi hf hacc hM
    obtain ⟨fu, rfl⟩ : ∃ f, fuel = f + 1 := ⟨fuel - 1, by omega⟩
    have e1 : i = 9 := by omega
    subst e1
    have e0 : l.drop 9 = [] := List.drop_eq_nil_of_le hl
    refine ⟨memo, ?_, hM⟩
    rw [m_X1_bestOutcome_c18, if_pos (by decide), e0]
    rfl
  | succ d ih =>
    intro i fuel acc memo hi hf hacc hM
    obtain ⟨fu, rfl⟩ : ∃ f, fuel = f + 1 := ⟨fuel - 1, by omega⟩
    rw [m_X1_bestOutcome_c18, if_neg (show ¬ (9 : Int32) ≤ nI i from nI_ge (b := 9) (by omega) (by decide)), if_neg (show ¬ (9 : Int32) ≤ nI e from nI_ge (b := 9) (by omega) (by decide)), if_pos (okI_nI (by omega) (by decide)), nI_clamp (by omega), hsp i (by omega)]
    by_cases q : i < l.length
    · have hx : l[i]? = some l[i] := List.getElem?_eq_getElem q
      have hx64 := (Asc_ge hA l[i] (List.getElem_mem q)).2
      have esp : sp l i = jshl 1 (nI l[i]) := by unfold sp; rw [hx]
      have htb := tb_dep3 0 hA c i _ hx
      rw [← hfree] at htb
      have eand : (free &&& jshl 1 (nI l[i]) = 0) ↔ ¬ tb free l[i] = true := by
        rw [and_eq_zero]
        constructor
        · intro h z
          exact h _ z (by rw [tb_one hx64 hx64]; exact decide_eq_true rfl)
        · intro h k h1 h2
          rw [tb_one hx64 (tb_lt64 h2)] at h2
          rw [of_decide_eq_true h2] at h1
          exact h h1
      rw [esp, List.drop_eq_getElem_cons q]
      unfold bst
      by_cases z : tb free l[i] = true
      · rw [if_neg (fun w => eand.mp w z), if_pos z]
        have h0 : dg c i = 0 := by rw [z] at htb; exact of_decide_eq_true htb.symm
        obtain ⟨memo', o1, o2⟩ := hoc i _ hx h0 memo hM
        obtain ⟨memo2, p1, p2⟩ := ih (i + 1) fu (ost conn acc (2 + F l[i])) memo' (by omega) (by omega) (ost_le hacc (by have := hF l[i]; omega)) o2
        refine ⟨memo2, ?_, p2⟩
        rw [← p1]
        have epw : nI c + (if conn = true then (1 : Int32) else 2) * pw9 i = nI (c + (if conn = true then 1 else 2) * 3 ^ i) := by
          show nI c + (if conn = true then (1 : Int32) else 2) * nI (3 ^ i) = _
          have e2 : (if conn = true then (1 : Int32) else 2) = nI (if conn = true then 1 else 2) := by cases conn <;> rfl
          rw [e2, pk_mul, nI_add]
        have hv : ∀ u : Int32, u = nI (F l[i]) → (if 0 ≤ enc acc then m_X1_better (enc acc) (2 + u) (bi conn) else 2 + u) = enc (ost conn acc (2 + F l[i])) := by
          intro u hu
          have e3 : (2 : Int32) + u = nI (2 + F l[i]) := by rw [hu]; exact nI_add 2 _
          rw [e3]
          have hFi := hF l[i]
          cases acc with
          | none =>
            rw [if_neg (by decide)]
            rfl
          | some b =>
            have hb := hacc b rfl
            rw [if_pos (show (0 : Int32) ≤ enc (some b) from nI_pos' (by omega))]
            exact x_better (by omega) (by omega) conn
        have fin : ∀ u : Int32 × (Nat → Int64), u = (nI (F l[i]), memo') → (if 0 ≤ enc acc then m_X1_bestOutcome_c124 (m_X1_bestOutcome_c18 fr to spots (B_size (bdn n)) (B_cells (bdn n)) (B_all (bdn n)) (B_left (bdn n)) (B_right (bdn n)) own free (bi conn) (nI c) (nI e) oc fu) (if conn = true then 1 else 2) (nI i) (m_X1_better (enc acc) (2 + u.1) (bi conn)) u.2 else m_X1_bestOutcome_c124 (m_X1_bestOutcome_c18 fr to spots (B_size (bdn n)) (B_cells (bdn n)) (B_all (bdn n)) (B_left (bdn n)) (B_right (bdn n)) own free (bi conn) (nI c) (nI e) oc fu) (if conn = true then 1 else 2) (nI i) (2 + u.1) u.2) = m_X1_bestOutcome_c18 fr to spots (B_size (bdn n)) (B_cells (bdn n)) (B_all (bdn n)) (B_left (bdn n)) (B_right (bdn n)) own free (bi conn) (nI c) (nI e) oc fu (enc (ost conn acc (2 + F l[i]))) (if conn = true then 1 else 2) (nI (i + 1)) memo' := by
          intro u hu
          have h5 := hv u.1 (by rw [hu])
          unfold m_X1_bestOutcome_c124 m_X1_bestOutcome_c126
          rw [nI_1]
          by_cases y : 0 ≤ enc acc
          · rw [if_pos y] at h5 ⊢
            rw [h5, hu]
          · rw [if_neg y] at h5 ⊢
            rw [h5, hu]
        unfold m_X1_bestOutcome_c65 m_X1_bestOutcome_c83
        rw [nI_clamp (by omega), epw, nI_1 e]
        cases conn with
        | true =>
          rw [if_neg (show ¬ bi true = 0 by decide), if_neg (show ¬ bi true = 0 by decide), if_pos (okI_nI (by omega) (by decide))]
          rw [show oc fr to spots memo (B_size (bdn n)) (B_cells (bdn n)) (B_all (bdn n)) (B_left (bdn n)) (B_right (bdn n)) (own ||| jshl 1 (nI l[i])) (free &&& (jshl 1 (nI l[i]) ^^^ (-1))) 0 (nI (c + (if true = true then 1 else 2) * 3 ^ i)) (nI (e + 1)) = some (nI (F l[i]), memo') from o1, bs]
          exact fin _ rfl
        | false =>
          rw [if_pos (show bi false = 0 by decide), if_pos (show bi false = 0 by decide), if_pos (okI_nI (by omega) (by decide))]
          rw [show oc fr to spots memo (B_size (bdn n)) (B_cells (bdn n)) (B_all (bdn n)) (B_left (bdn n)) (B_right (bdn n)) own (free &&& (jshl 1 (nI l[i]) ^^^ (-1))) 1 (nI (c + (if false = true then 1 else 2) * 3 ^ i)) (nI (e + 1)) = some (nI (F l[i]), memo') from o1, bs]
          exact fin _ rfl
      · rw [if_pos (eand.mpr z), if_neg z]
        unfold m_X1_bestOutcome_c126
        rw [nI_1]
        exact ih (i + 1) fu acc memo (by omega) (by omega) hacc hM
    · have esp : sp l i = 0 := by unfold sp; rw [List.getElem?_eq_none (by omega)]
      have e0 : l.drop i = [] := List.drop_eq_nil_of_le (by omega)
      have e1 : l.drop (i + 1) = [] := List.drop_eq_nil_of_le (by omega)
      rw [esp, if_pos (and_zero _)]
      unfold m_X1_bestOutcome_c126
      rw [nI_1]
      have := ih (i + 1) fu acc memo (by omega) (by omega) hacc hM
      rw [e1] at this
      rw [e0]
      exact this
/-- whose turn it is -/
def cn (conn0 : Bool) (e : Nat) : Bool := if e % 2 = 0 then conn0 else !conn0
theorem cn_succ (conn0 : Bool) (e : Nat) : cn conn0 (e + 1) = !cn conn0 e := by
  unfold cn
  by_cases h : e % 2 = 0
  · rw [if_pos h, if_neg (by omega)]
  · rw [if_neg h, if_pos (by omega), Bool.not_not]
/-- the value of a numbered position, the connecting player's stones being digit k -/
def vl (n : Nat) (fr to : Int64) (l : List Nat) (own0 : Int64) (conn0 : Bool) (k c : Nat) : Nat := G n fr to l (l.length - nzn l.length c) (own0 ||| dep3 k l c) (dep3 0 l c) (cn conn0 (nzn l.length c))
def MOK (n : Nat) (fr to : Int64) (l : List Nat) (own0 : Int64) (conn0 : Bool) (memo : Nat → Int64) : Prop := ∀ c, c < 3 ^ l.length → Ent memo c 0 ∨ Ent memo c (vl n fr to l own0 conn0 1 c + 1)
theorem vl_le {n : Nat} {fr to : Int64} {l : List Nat} {own0 : Int64} {conn0 : Bool} {k c : Nat} (hl : l.length ≤ 9) : vl n fr to l own0 conn0 k c ≤ 19 := by
  have := G_le n fr to l (l.length - nzn l.length c) (own0 ||| dep3 k l c) (dep3 0 l c) (cn conn0 (nzn l.length c))
  unfold vl
  omega
theorem or_move (own0 d b : Int64) : own0 ||| (d ||| b) = (own0 ||| d) ||| b := or_assoc3 _ _ _
theorem or_keep {a f b : Int64} (h : sub b f) : (a ||| b) ||| (f &&& (b ^^^ (-1))) = a ||| f := by
  apply tb_ext
  intro k hk
  rw [tb_or, tb_or, tb_or, tb_and, tb_not _ hk]
  have := h k
  cases h1 : tb a k <;> cases h2 : tb b k <;> cases h3 : tb f k <;> simp_all
/-- the unfolding of the value at a position that isn't decided -/
theorem vl_step {n : Nat} {fr to : Int64} {lo : Nat} {l : List Nat} (hA : Asc lo l) {own0 : Int64} {conn0 : Bool} {k c : Nat} (hk : k = 1 ∨ k = 2) (hnz : nzn l.length c < l.length) (h1 : lk n (own0 ||| dep3 k l c) fr to = false) (h2 : lk n (own0 ||| dep3 k l c ||| dep3 0 l c) fr to = true) (F : Nat → Nat) (hF : ∀ (i x : Nat), l[i]? = some x → dg c i = 0 → F x = vl n fr to l own0 conn0 k (c + (if cn conn0 (nzn l.length c) = true then k else 3 - k) * 3 ^ i)) : bst (cn conn0 (nzn l.length c)) F (dep3 0 l c) l none = some (vl n fr to l own0 conn0 k c) := by
  have hne : bst (cn conn0 (nzn l.length c)) F (dep3 0 l c) l none ≠ none := by
    apply bst_some
    right
    obtain ⟨i, hi, h0⟩ := nzn_zero _ _ hnz
    have hx : l[i]? = some l[i] := List.getElem?_eq_getElem hi
    exact ⟨l[i], List.getElem_mem hi, by rw [tb_dep3 0 hA c i _ hx, h0]; rfl⟩
  have hv : vl n fr to l own0 conn0 k c = (bst (cn conn0 (nzn l.length c)) F (dep3 0 l c) l none).getD 0 := by
    unfold vl
    obtain ⟨d, hd⟩ : ∃ d, l.length - nzn l.length c = d + 1 := ⟨l.length - nzn l.length c - 1, by omega⟩
    rw [hd, G, if_neg (by rw [h1]; decide), if_neg (by rw [h2]; decide)]
    congr 1
    apply bst_congr
    intro x hx hfx
    obtain ⟨i, hi, hxi⟩ := getElem_ex hx
    have h0 : dg c i = 0 := by rw [tb_dep3 0 hA c i x hxi] at hfx; exact of_decide_eq_true hfx
    rw [hF i x hxi h0]
    have hkk : (if cn conn0 (nzn l.length c) = true then k else 3 - k) = 1 ∨ (if cn conn0 (nzn l.length c) = true then k else 3 - k) = 2 := by
      split <;> omega
    have m0 := dep3_move hA hxi h0 hkk 0
    have m1 := dep3_move hA hxi h0 hkk k
    rw [if_pos rfl] at m0
    rw [if_neg (show ¬ k = 0 by omega)] at m1
    unfold vl
    rw [nzn_add (by rcases hkk with q | q <;> rw [q] <;> decide) hi h0, cn_succ, m0, m1]
    rw [show l.length - (nzn l.length c + 1) = d by omega]
    cases hcn : cn conn0 (nzn l.length c)
    · have e : ¬ k = (if false = true then k else 3 - k) := by rw [if_neg (by decide)]; omega
      rw [if_neg e, if_neg (show ¬ false = true by decide)]
    · have e : k = (if true = true then k else 3 - k) := by rw [if_pos rfl]
      rw [if_pos e, if_pos (show true = true from rfl), or_move]
  cases hb : bst (cn conn0 (nzn l.length c)) F (dep3 0 l c) l none with
  | none => exact absurd hb hne
  | some b => rw [hb] at hv; rw [hv]; rfl
theorem x_outcome {n : Nat} (hn : 2 ≤ n ∧ n ≤ 7) {fr to own0 : Int64} {spots : Nat → Int64} {lo : Nat} {l : List Nat} (hA : Asc lo l) (hl : l.length ≤ 9) (hlf : sub (setof l) (full n)) (hown : sub own0 (full n)) (hsp : ∀ z, z < 9 → spots z = sp l z) (conn0 : Bool) : ∀ (D c : Nat) (memo : Nat → Int64), l.length - nzn l.length c + 1 ≤ D → c < 3 ^ l.length → MOK n fr to l own0 conn0 memo → (0 < nzn l.length c → (cn conn0 (nzn l.length c) = true → lk n (own0 ||| dep3 1 l c) fr to = false) ∧ (cn conn0 (nzn l.length c) = false → lk n (own0 ||| dep3 1 l c ||| dep3 0 l c) fr to = true)) → ∃ memo', m_X1_outcome D fr to spots memo (B_size (bdn n)) (B_cells (bdn n)) (B_all (bdn n)) (B_left (bdn n)) (B_right (bdn n)) (own0 ||| dep3 1 l c) (dep3 0 l c) (bi (cn conn0 (nzn l.length c))) (nI c) (nI (nzn l.length c)) = some (nI (vl n fr to l own0 conn0 1 c), memo') ∧ MOK n fr to l own0 conn0 memo' := by
  intro D
  induction D with
  | zero => intro c memo h; omega
  | succ D ih =>
    intro c memo hD hc hM hpre
    have hp9 : (3 : Nat) ^ l.length ≤ 19683 := Nat.pow_le_pow_right (n := 3) (j := 9) (by decide) hl
    have hnl := nzn_le l.length c
    have hvl := vl_le (n := n) (fr := fr) (to := to) (own0 := own0) (conn0 := conn0) (k := 1) (c := c) hl
    have hso : sub (own0 ||| dep3 1 l c) (full n) := or_sub hown (sub_trans (dep3_sub 1 hA c) hlf)
    have hsf : sub (own0 ||| dep3 1 l c ||| dep3 0 l c) (full n) := or_sub hso (sub_trans (dep3_sub 0 hA c) hlf)
    show ∃ memo', m_X1_outcomeB fr to spots memo (B_size (bdn n)) (B_cells (bdn n)) (B_all (bdn n)) (B_left (bdn n)) (B_right (bdn n)) (own0 ||| dep3 1 l c) (dep3 0 l c) (bi (cn conn0 (nzn l.length c))) (nI c) (nI (nzn l.length c)) (m_X1_outcome D) = _ ∧ _
    unfold m_X1_outcomeB
    rcases hM c hc with hE | hE
    · rw [x_recall (by omega) (by decide) hE, bs, if_pos (show nI 0 - (1 : Int32) < 0 by decide)]
      have keep : ∀ memo1, MOK n fr to l own0 conn0 memo1 → ∃ memo', m_X1_outcomeB_c104 (nI c) (nI (vl n fr to l own0 conn0 1 c)) memo1 = some (nI (vl n fr to l own0 conn0 1 c), memo') ∧ MOK n fr to l own0 conn0 memo' := by
        intro memo1 hM1
        unfold m_X1_outcomeB_c104
        rw [nI_1]
        obtain ⟨memo', r1, r2, r3⟩ := x_remember (memo := memo1) (c := c) (u := vl n fr to l own0 conn0 1 c + 1) (by omega) (by omega)
        rw [r1, bs]
        refine ⟨memo', rfl, fun c' hc' => ?_⟩
        by_cases q : c' = c
        · subst q; exact Or.inr (r2 (hM1 c' hc'))
        · rcases hM1 c' hc' with w | w
          · exact Or.inl (r3 c' 0 q w)
          · exact Or.inr (r3 c' _ q w)
      have best : nzn l.length c < l.length → lk n (own0 ||| dep3 1 l c) fr to = false → lk n (own0 ||| dep3 1 l c ||| dep3 0 l c) fr to = true → ∃ memo', m_X1_outcomeB_c90 fr to spots (B_size (bdn n)) (B_cells (bdn n)) (B_all (bdn n)) (B_left (bdn n)) (B_right (bdn n)) (own0 ||| dep3 1 l c) (dep3 0 l c) (bi (cn conn0 (nzn l.length c))) (nI c) (nI (nzn l.length c)) (m_X1_outcome D) memo = some (nI (vl n fr to l own0 conn0 1 c), memo') ∧ MOK n fr to l own0 conn0 memo' := by
        intro hnz h1 h2
        have hk' : (if cn conn0 (nzn l.length c) = true then 1 else 2) = (if cn conn0 (nzn l.length c) = true then 1 else 3 - 1) := rfl
        have hkk : (if cn conn0 (nzn l.length c) = true then 1 else 2) = 1 ∨ (if cn conn0 (nzn l.length c) = true then 1 else 2) = 2 := by split <;> omega
        let F : Nat → Nat := fun x => G n fr to l (l.length - nzn l.length c - 1) (if cn conn0 (nzn l.length c) = true then (own0 ||| dep3 1 l c) ||| jshl 1 (nI x) else own0 ||| dep3 1 l c) (dep3 0 l c &&& (jshl 1 (nI x) ^^^ (-1))) (!cn conn0 (nzn l.length c))
        have hFv : ∀ (i x : Nat), l[i]? = some x → dg c i = 0 → F x = vl n fr to l own0 conn0 1 (c + (if cn conn0 (nzn l.length c) = true then 1 else 2) * 3 ^ i) := by
          intro i x hxi h0
          have hi := (List.getElem?_eq_some_iff.mp hxi).1
          show G n fr to l _ _ _ _ = _
          have m0 := dep3_move hA hxi h0 hkk 0
          have m1 := dep3_move hA hxi h0 hkk 1
          rw [if_pos rfl] at m0
          rw [if_neg (show ¬ 1 = 0 by decide)] at m1
          unfold vl
          rw [nzn_add (by rcases hkk with q | q <;> rw [q] <;> decide) hi h0, cn_succ, m0, m1]
          rw [show l.length - (nzn l.length c + 1) = l.length - nzn l.length c - 1 by omega]
          cases hcn : cn conn0 (nzn l.length c)
          · have e : ¬ 1 = (if false = true then 1 else 2) := by decide
            rw [if_neg e, if_neg (show ¬ false = true by decide)]
          · have e : 1 = (if true = true then 1 else 2) := by decide
            rw [if_pos e, if_pos (show true = true from rfl), or_move]
        have hbest := vl_step hA (Or.inl rfl) hnz h1 h2 F hFv
        obtain ⟨memo1, b1, b2⟩ := best_loop (n := n) (fr := fr) (to := to) (own := own0 ||| dep3 1 l c) (free := dep3 0 l c) hA hl hsp (c := c) (e := nzn l.length c) (by omega) rfl (by omega) (cn conn0 (nzn l.length c)) (m_X1_outcome D) F (fun x => by
          have := G_le n fr to l (l.length - nzn l.length c - 1) (if cn conn0 (nzn l.length c) = true then (own0 ||| dep3 1 l c) ||| jshl 1 (nI x) else own0 ||| dep3 1 l c) (dep3 0 l c &&& (jshl 1 (nI x) ^^^ (-1))) (!cn conn0 (nzn l.length c))
          show G n fr to l _ _ _ _ < 100
          omega) (MOK n fr to l own0 conn0) (fun i x hxi h0 memo1 hM1 => by
          have hi := (List.getElem?_eq_some_iff.mp hxi).1
          have hx64 := (Asc_ge hA x (List.mem_of_getElem? hxi)).2
          have hlt := code_lt (k := if cn conn0 (nzn l.length c) = true then 1 else 2) (by split <;> omega) hi h0 hc
          have hnz' := nzn_add (k := if cn conn0 (nzn l.length c) = true then 1 else 2) (by split <;> omega) hi h0
          have hfx : sub (jshl 1 (nI x)) (dep3 0 l c) := fun z hz => by
            rw [tb_one hx64 (tb_lt64 hz)] at hz
            rw [of_decide_eq_true hz, tb_dep3 0 hA c i x hxi, h0]
            rfl
          have m0 := dep3_move hA hxi h0 hkk 0
          have m1 := dep3_move hA hxi h0 hkk 1
          rw [if_pos rfl] at m0
          rw [if_neg (show ¬ 1 = 0 by decide)] at m1
          have eown : own0 ||| dep3 1 l (c + (if cn conn0 (nzn l.length c) = true then 1 else 2) * 3 ^ i) = if cn conn0 (nzn l.length c) = true then (own0 ||| dep3 1 l c) ||| jshl 1 (nI x) else own0 ||| dep3 1 l c := by
            rw [m1]
            cases hcn : cn conn0 (nzn l.length c)
            · rw [if_neg (show ¬ 1 = (if false = true then 1 else 2) by decide), if_neg (show ¬ false = true by decide)]
            · rw [if_pos (show 1 = (if true = true then 1 else 2) by decide), if_pos (show true = true from rfl), or_move]
          have := ih (c + (if cn conn0 (nzn l.length c) = true then 1 else 2) * 3 ^ i) memo1 (by rw [hnz']; omega) hlt hM1 (fun _ => by
            rw [hnz', cn_succ, eown, m0]
            cases hcn : cn conn0 (nzn l.length c)
            · refine ⟨fun _ => ?_, fun h => absurd h (by decide)⟩
              rw [if_neg (by decide)]
              exact h1
            · refine ⟨fun h => absurd h (by decide), fun _ => ?_⟩
              rw [if_pos rfl, or_keep hfx]
              exact h2)
          rw [hnz', cn_succ, eown, m0, ← hFv i x hxi h0] at this
          exact this) 9 0 FU none memo (by omega) (FU_ge (by omega)) (fun b hb => by cases hb) hM
        rw [List.drop_zero, hbest] at b1
        unfold m_X1_outcomeB_c90 m_X1_bestOutcome m_X1_bestOutcome_c13
        have b1' : (if bi (cn conn0 (nzn l.length c)) = 0 then m_X1_bestOutcome_c18 fr to spots (B_size (bdn n)) (B_cells (bdn n)) (B_all (bdn n)) (B_left (bdn n)) (B_right (bdn n)) (own0 ||| dep3 1 l c) (dep3 0 l c) (bi (cn conn0 (nzn l.length c))) (nI c) (nI (nzn l.length c)) (m_X1_outcome D) FU (-1) 2 0 memo else m_X1_bestOutcome_c18 fr to spots (B_size (bdn n)) (B_cells (bdn n)) (B_all (bdn n)) (B_left (bdn n)) (B_right (bdn n)) (own0 ||| dep3 1 l c) (dep3 0 l c) (bi (cn conn0 (nzn l.length c))) (nI c) (nI (nzn l.length c)) (m_X1_outcome D) FU (-1) 1 0 memo) = some (enc (some (vl n fr to l own0 conn0 1 c)), memo1) := by
          cases hcn : cn conn0 (nzn l.length c)
          · rw [if_pos (show bi false = 0 by decide)]
            rw [hcn, if_neg (by decide)] at b1
            exact b1
          · rw [if_neg (show ¬ bi true = 0 by decide)]
            rw [hcn, if_pos rfl] at b1
            exact b1
        rw [b1', bs]
        exact keep memo1 b2
      -- the cases
      have dz : l.length = nzn l.length c → dep3 0 l c = 0 := fun h => (dep3_pc hA c).mpr h.symm
      have vz : nzn l.length c = l.length → vl n fr to l own0 conn0 1 c = if lk n (own0 ||| dep3 1 l c) fr to = true then 1 else 0 := fun h => by
        unfold vl
        rw [h, Nat.sub_self, G]
      have v1 : lk n (own0 ||| dep3 1 l c) fr to = true → vl n fr to l own0 conn0 1 c = 1 := fun h => by
        unfold vl
        cases hd : l.length - nzn l.length c with
        | zero => rw [G, if_pos h]
        | succ d => rw [G, if_pos h]
      have v0 : lk n (own0 ||| dep3 1 l c) fr to = false → lk n (own0 ||| dep3 1 l c ||| dep3 0 l c) fr to = false → vl n fr to l own0 conn0 1 c = 0 := fun h h' => by
        unfold vl
        cases hd : l.length - nzn l.length c with
        | zero => rw [G, if_neg (by rw [h]; decide)]
        | succ d => rw [G, if_neg (by rw [h]; decide), if_pos h']
      have c63 : lk n (own0 ||| dep3 1 l c) fr to = false → ∃ memo', m_X1_outcomeB_c63 fr to spots (B_size (bdn n)) (B_cells (bdn n)) (B_all (bdn n)) (B_left (bdn n)) (B_right (bdn n)) (own0 ||| dep3 1 l c) (dep3 0 l c) (bi (cn conn0 (nzn l.length c))) (nI c) (nI (nzn l.length c)) (m_X1_outcome D) memo = some (nI (vl n fr to l own0 conn0 1 c), memo') ∧ MOK n fr to l own0 conn0 memo' := by
        intro h1
        unfold m_X1_outcomeB_c63
        rw [x_linked hn hsf, bs]
        cases h2 : lk n (own0 ||| dep3 1 l c ||| dep3 0 l c) fr to
        · rw [if_pos (show (if false = true then (1 : Int32) else 0) = 0 from rfl)]
          have := keep memo hM
          rw [v0 h1 h2] at this ⊢
          exact this
        · rw [if_neg (show ¬ (if true = true then (1 : Int32) else 0) = 0 by decide)]
          refine best ?_ h1 h2
          rcases Nat.lt_or_ge (nzn l.length c) l.length with q | q
          · exact q
          · exfalso
            rw [dz (by omega), or_zero] at h2
            rw [h1] at h2
            cases h2
      have c28 : (lk n (own0 ||| dep3 1 l c) fr to = false → ∃ memo', m_X1_outcomeB_c53 fr to spots (B_size (bdn n)) (B_cells (bdn n)) (B_all (bdn n)) (B_left (bdn n)) (B_right (bdn n)) (own0 ||| dep3 1 l c) (dep3 0 l c) (bi (cn conn0 (nzn l.length c))) (nI c) (nI (nzn l.length c)) (m_X1_outcome D) memo = some (nI (vl n fr to l own0 conn0 1 c), memo') ∧ MOK n fr to l own0 conn0 memo') → ∃ memo', m_X1_outcomeB_c28 fr to spots (B_size (bdn n)) (B_cells (bdn n)) (B_all (bdn n)) (B_left (bdn n)) (B_right (bdn n)) (own0 ||| dep3 1 l c) (dep3 0 l c) (bi (cn conn0 (nzn l.length c))) (nI c) (nI (nzn l.length c)) (m_X1_outcome D) memo = some (nI (vl n fr to l own0 conn0 1 c), memo') ∧ MOK n fr to l own0 conn0 memo' := by
        intro h53
        unfold m_X1_outcomeB_c28
        rw [x_linked hn hso, bs]
        cases h1 : lk n (own0 ||| dep3 1 l c) fr to
        · rw [if_pos (show (if false = true then (1 : Int32) else 0) = 0 from rfl)]
          exact h53 h1
        · rw [if_neg (show ¬ (if true = true then (1 : Int32) else 0) = 0 by decide)]
          have := keep memo hM
          rw [v1 h1] at this ⊢
          exact this
      by_cases he : nzn l.length c = 0
      · have he0 : nI (nzn l.length c) = (0 : Int32) := by rw [he]; rfl
        rw [if_pos he0]
        apply c28
        intro h1
        unfold m_X1_outcomeB_c53
        rw [if_pos he0]
        exact c63 h1
      · have hpr := hpre (by omega)
        have hne : ¬ nI (nzn l.length c) = (0 : Int32) := nI_ne0 (by omega) (by omega)
        rw [if_neg hne]
        cases hcn : cn conn0 (nzn l.length c)
        · rw [if_pos (show bi false = 0 by decide)]
          rw [hcn] at c28 best
          apply c28
          intro h1
          unfold m_X1_outcomeB_c53
          rw [if_neg hne, if_pos (show bi false = 0 by decide)]
          have h2 := hpr.2 hcn
          refine best ?_ h1 h2
          rcases Nat.lt_or_ge (nzn l.length c) l.length with q | q
          · exact q
          · exfalso
            rw [dz (by omega), or_zero] at h2
            rw [h1] at h2
            cases h2
        · rw [if_neg (show ¬ bi true = 0 by decide)]
          rw [hcn] at c63
          unfold m_X1_outcomeB_c53
          rw [if_neg hne, if_neg (show ¬ bi true = 0 by decide)]
          exact c63 (hpr.1 hcn)
    · rw [x_recall (by omega) (by omega) hE, bs, nI_pred, if_neg (nI_pos (by omega))]
      exact ⟨memo, rfl, hM⟩

/-! the class's answers on the whole board -/
theorem x_length : ∀ v, v < 20 → m_X1_length (nI v) = nI (v / 2) := by decide
theorem mok_zero {n : Nat} {fr to : Int64} {l : List Nat} {own0 : Int64} {conn0 : Bool} {memo : Nat → Int64} (h : ∀ z, z * 12 < 3 ^ l.length → memo z = 0) : MOK n fr to l own0 conn0 memo := by
  intro c hc
  left
  intro j _
  rw [h (c / 12) (by have := Nat.div_mul_le_self c 12; omega), tb_zero, Nat.zero_testBit]
theorem x_result {n : Nat} (hn : 2 ≤ n ∧ n ≤ 7) {fr to own0 : Int64} {spots memo : Nat → Int64} {lo : Nat} {l : List Nat} (hA : Asc lo l) (hl : l.length ≤ 9) (hlf : sub (setof l) (full n)) (hown : sub own0 (full n)) (hsp : ∀ z, z < 9 → spots z = sp l z) (conn0 : Bool) (hM : MOK n fr to l own0 conn0 memo) : ∃ memo', m_X1_result fr to spots memo (B_size (bdn n)) (B_cells (bdn n)) (B_all (bdn n)) (B_left (bdn n)) (B_right (bdn n)) own0 (setof l) (bi conn0) = some (nI (vl n fr to l own0 conn0 1 0), memo') ∧ MOK n fr to l own0 conn0 memo' := by
  obtain ⟨memo', e, hM'⟩ := x_outcome hn (fr := fr) (to := to) hA hl hlf hown hsp conn0 11 0 memo (by omega) (Nat.pow_pos (by decide)) hM (fun h => by rw [nzn_z] at h; omega)
  obtain ⟨r1, r2⟩ := dep3_root hA
  rw [r1, r2 1 (by decide), or_zero, nzn_z] at e
  unfold m_X1_result
  refine ⟨memo', ?_, hM'⟩
  rw [show m_X1_outcome 11 fr to spots memo (B_size (bdn n)) (B_cells (bdn n)) (B_all (bdn n)) (B_left (bdn n)) (B_right (bdn n)) own0 (setof l) (bi conn0) 0 0 = some (nI (vl n fr to l own0 conn0 1 0), memo') from e, bs]
theorem ost_ge {conn : Bool} {acc : Option Nat} {v M : Nat} (h : ∀ b, acc = some b → M ≤ b) (hv : M ≤ v) : ∀ b, ost conn acc v = some b → M ≤ b := by
  intro b hb
  cases acc with
  | none => have : v = b := Option.some.inj hb; omega
  | some a =>
    have e : btr a v conn = b := Option.some.inj hb
    have := h a rfl
    rcases btr_mem a v conn with q | q <;> omega
theorem bst_ge {conn : Bool} {F : Nat → Nat} {free : Int64} : ∀ (l : List Nat) (acc : Option Nat), (∀ b, acc = some b → 2 ≤ b) → ∀ b, bst conn F free l acc = some b → 2 ≤ b
  | [], acc, h, b, hb => h b hb
  | x :: t, acc, h, b, hb => by
    unfold bst at hb
    refine bst_ge t _ ?_ b hb
    by_cases q : tb free x = true
    · rw [if_pos q]; exact ost_ge h (by omega)
    · rw [if_neg q]; exact h
/-- the root is decided, or lasts -/
theorem root_two {n : Nat} {fr to own0 : Int64} {lo : Nat} {l : List Nat} (hA : Asc lo l) {conn0 : Bool} (h1 : lk n own0 fr to = false) (h2 : lk n (own0 ||| setof l) fr to = true) : 2 ≤ vl n fr to l own0 conn0 1 0 := by
  obtain ⟨r1, r2⟩ := dep3_root hA
  obtain ⟨F, hF⟩ := fun_of hA (fun i => vl n fr to l own0 conn0 1 (0 + (if cn conn0 (nzn l.length 0) = true then 1 else 3 - 1) * 3 ^ i))
  have hz : nzn l.length 0 < l.length := by
    rw [nzn_z]
    cases l with
    | nil =>
      exfalso
      rw [show setof [] = 0 from rfl, or_zero, h1] at h2
      cases h2
    | cons a t => rw [List.length_cons]; omega
  have := vl_step (n := n) (fr := fr) (to := to) hA (own0 := own0) (conn0 := conn0) (k := 1) (c := 0) (Or.inl rfl) hz (by rw [r2 1 (by decide), or_zero]; exact h1) (by rw [r2 1 (by decide), or_zero, r1]; exact h2) F (fun i x hx _ => hF i x hx)
  exact bst_ge l none (fun b hb => by cases hb) _ this
def ws (l : List Nat) (W : Nat → Bool) : Nat → Nat → Int64 → Int64
  | 0, _, acc => acc
  | d + 1, i, acc => ws l W d (i + 1) (if W i = true then acc ||| sp l i else acc)
def kk (conn : Bool) : Nat := if conn = true then 1 else 2
theorem kk12 (conn : Bool) : kk conn = 1 ∨ kk conn = 2 := by unfold kk; cases conn <;> simp
theorem dg_z (i : Nat) : dg 0 i = 0 := by unfold dg; rw [Nat.zero_div]
theorem spots_loop {n : Nat} (hn : 2 ≤ n ∧ n ≤ 7) {fr to own0 : Int64} {spots : Nat → Int64} {lo : Nat} {l : List Nat} (hA : Asc lo l) (hl : l.length ≤ 9) (hlf : sub (setof l) (full n)) (hown : sub own0 (full n)) (hsp : ∀ z, z < 9 → spots z = sp l z) (conn0 : Bool) (h1 : lk n own0 fr to = false) (h2 : lk n (own0 ||| setof l) fr to = true) : ∀ (d i fuel : Nat) (acc : Int64) (memo : Nat → Int64), i + d = l.length → d + 1 ≤ fuel → MOK n fr to l own0 conn0 memo → ∃ memo', m_X1_winningSpots_c35 fr to spots (B_size (bdn n)) (B_cells (bdn n)) (B_all (bdn n)) (B_left (bdn n)) (B_right (bdn n)) own0 (setof l) (bi conn0) fuel acc (nI (kk conn0)) (nI i) memo = some (ws l (fun i => decide (bt (vl n fr to l own0 conn0 1 (kk conn0 * 3 ^ i)) = conn0)) d i acc, memo') ∧ MOK n fr to l own0 conn0 memo' := by
  obtain ⟨r1, r2⟩ := dep3_root hA
  intro d
  induction d with
  | zero =>
    intro i fuel acc memo hi hf hM
    obtain ⟨fu, rfl⟩ : ∃ f, fuel = f + 1 := ⟨fuel - 1, by omega⟩
    refine ⟨memo, ?_, hM⟩
    rw [m_X1_winningSpots_c35]
    by_cases q : (9 : Int32) ≤ nI i
    · rw [if_pos q]; rfl
    · have hi9 : i < 9 := by
        rcases Nat.lt_or_ge i 9 with z | z
        · exact z
        · exact absurd (nI_le (a := 9) (b := i) z (by omega)) q
      rw [if_neg q, if_pos (okI_nI (by omega) (by decide)), nI_clamp (by omega), hsp i hi9, show sp l i = 0 by unfold sp; rw [List.getElem?_eq_none (by omega)], if_pos (and_zero _)]
      rfl
  | succ d ih =>
    intro i fuel acc memo hi hf hM
    obtain ⟨fu, rfl⟩ : ∃ f, fuel = f + 1 := ⟨fuel - 1, by omega⟩
    have q : i < l.length := by omega
    have hx : l[i]? = some l[i] := List.getElem?_eq_getElem q
    have hmem := List.getElem_mem q
    have hx64 := (Asc_ge hA l[i] hmem).2
    have esp : sp l i = jshl 1 (nI l[i]) := by unfold sp; rw [hx]
    have htb : tb (setof l) l[i] = true := (tb_setof hA _).mpr hmem
    have hnz : ¬ setof l &&& sp l i = 0 := by
      rw [and_eq_zero]
      intro h
      exact h l[i] htb (by rw [esp, tb_one hx64 hx64]; exact decide_eq_true rfl)
    have hfx : sub (jshl 1 (nI l[i])) (setof l) := fun z hz => by
      rw [tb_one hx64 (tb_lt64 hz)] at hz
      rw [of_decide_eq_true hz]
      exact htb
    have hkk := kk12 conn0
    have m0 := dep3_move hA hx (dg_z i) hkk 0
    have m1 := dep3_move hA hx (dg_z i) hkk 1
    rw [if_pos rfl, r1, Nat.zero_add] at m0
    rw [if_neg (show ¬ 1 = 0 by decide), r2 1 (by decide), Nat.zero_add] at m1
    have hlt := code_lt (k := kk conn0) (by omega) q (dg_z i) (Nat.pow_pos (n := l.length) (show 0 < 3 by decide))
    have hn1 := nzn_add (k := kk conn0) (by omega) q (dg_z i)
    rw [Nat.zero_add] at hlt hn1
    rw [nzn_z] at hn1
    have ecn : cn conn0 (0 + 1) = !conn0 := by rw [cn_succ]; rfl
    have eown : own0 ||| dep3 1 l (kk conn0 * 3 ^ i) = if conn0 = true then own0 ||| jshl 1 (nI l[i]) else own0 := by
      rw [m1]
      cases conn0
      · rw [if_neg (show ¬ 1 = kk false by decide), or_zero, if_neg (by decide)]
      · rw [if_pos (show 1 = kk true by decide), if_pos rfl]
        congr 1
        apply tb_ext
        intro z _
        rw [tb_or, tb_zero, Bool.false_or]
    obtain ⟨memo1, o1, o2⟩ := x_outcome hn (fr := fr) (to := to) hA hl hlf hown hsp conn0 11 (kk conn0 * 3 ^ i) memo (by omega) hlt hM (fun _ => by
      rw [hn1, ecn, eown, m0]
      cases conn0
      · refine ⟨fun _ => ?_, fun h => absurd h (by decide)⟩
        rw [if_neg (by decide)]
        exact h1
      · refine ⟨fun h => absurd h (by decide), fun _ => ?_⟩
        rw [if_pos rfl, or_keep hfx]
        exact h2)
    rw [hn1, ecn, eown, m0] at o1
    obtain ⟨memo2, p1, p2⟩ := ih (i + 1) fu (if (fun i => decide (bt (vl n fr to l own0 conn0 1 (kk conn0 * 3 ^ i)) = conn0)) i = true then acc ||| sp l i else acc) memo1 (by omega) (by omega) o2
    refine ⟨memo2, ?_, p2⟩
    have hvl := vl_le (n := n) (fr := fr) (to := to) (own0 := own0) (conn0 := conn0) (k := 1) (c := kk conn0 * 3 ^ i) hl
    have ecode : nI (kk conn0) * pw9 (nI i).toNatClampNeg = nI (kk conn0 * 3 ^ i) := by
      rw [nI_clamp (by omega)]
      exact pk_mul _ _
    have okk : okI (nI i) 9 = true := okI_nI (by omega) (by decide)
    rw [m_X1_winningSpots_c35, if_neg (show ¬ (9 : Int32) ≤ nI i from nI_ge (b := 9) (by omega) (by decide)), if_pos okk, nI_clamp (by omega), hsp i (by omega), if_neg hnz, if_pos okk]
    have fin : ∀ t0 t2, t0 = bi (!conn0) → t2 = (if conn0 = true then own0 ||| jshl 1 (nI l[i]) else own0) → m_X1_winningSpots_c97 fr to spots (B_size (bdn n)) (B_cells (bdn n)) (B_all (bdn n)) (B_left (bdn n)) (B_right (bdn n)) (bi conn0) (m_X1_winningSpots_c35 fr to spots (B_size (bdn n)) (B_cells (bdn n)) (B_all (bdn n)) (B_left (bdn n)) (B_right (bdn n)) own0 (setof l) (bi conn0) fu) acc (nI (kk conn0)) (nI i) (sp l i) t0 (setof l &&& (sp l i ^^^ (-1))) t2 memo = some (ws l (fun i => decide (bt (vl n fr to l own0 conn0 1 (kk conn0 * 3 ^ i)) = conn0)) (d + 1) i acc, memo2) := by
      intro t0 t2 e1 e2
      unfold m_X1_winningSpots_c97 m_X1_winningSpots_c129
      rw [if_pos okk, ecode, e1, e2, esp, nI_1]
      rw [show m_X1_outcome 11 fr to spots memo (B_size (bdn n)) (B_cells (bdn n)) (B_all (bdn n)) (B_left (bdn n)) (B_right (bdn n)) (if conn0 = true then own0 ||| jshl 1 (nI l[i]) else own0) (setof l &&& (jshl 1 (nI l[i]) ^^^ (-1))) (bi (!conn0)) (nI (kk conn0 * 3 ^ i)) 1 = some (nI (vl n fr to l own0 conn0 1 (kk conn0 * 3 ^ i)), memo1) from o1, bs, x_connects (by omega)]
      show _ = some (ws l _ d (i + 1) (if (fun i => decide (bt (vl n fr to l own0 conn0 1 (kk conn0 * 3 ^ i)) = conn0)) i = true then acc ||| sp l i else acc), memo2)
      rw [← p1]
      by_cases w : bt (vl n fr to l own0 conn0 1 (kk conn0 * 3 ^ i)) = conn0
      · rw [if_pos (bi_eq.mpr w), if_pos (decide_eq_true w), esp]
      · rw [if_neg (fun z => w (bi_eq.mp z)), if_neg (by rw [decide_eq_true_eq]; exact w)]
    unfold m_X1_winningSpots_c79
    cases conn0 with
    | false => 
      rw [if_pos (show bi false = 0 by decide), if_pos (show bi false = 0 by decide)]
      exact fin 1 own0 rfl rfl
    | true =>
      rw [if_neg (show ¬ bi true = 0 by decide), if_neg (show ¬ bi true = 0 by decide)]
      exact fin 0 _ rfl (by rw [if_pos rfl, esp])
theorem x_spots {n : Nat} (hn : 2 ≤ n ∧ n ≤ 7) {fr to own0 : Int64} {spots memo : Nat → Int64} {lo : Nat} {l : List Nat} (hA : Asc lo l) (hl : l.length ≤ 9) (hlf : sub (setof l) (full n)) (hown : sub own0 (full n)) (hsp : ∀ z, z < 9 → spots z = sp l z) (conn0 : Bool) (hM : MOK n fr to l own0 conn0 memo) : ∃ memo', m_X1_winningSpots fr to spots memo (B_size (bdn n)) (B_cells (bdn n)) (B_all (bdn n)) (B_left (bdn n)) (B_right (bdn n)) own0 (setof l) (bi conn0) = some (if lk n own0 fr to = true then 0 else if lk n (own0 ||| setof l) fr to = false then 0 else ws l (fun i => decide (bt (vl n fr to l own0 conn0 1 (kk conn0 * 3 ^ i)) = conn0)) l.length 0 0, memo') := by
  obtain ⟨memo1, e1, hM1⟩ := x_result hn hA hl hlf hown hsp conn0 hM
  obtain ⟨r1, r2⟩ := dep3_root hA
  have hvl := vl_le (n := n) (fr := fr) (to := to) (own0 := own0) (conn0 := conn0) (k := 1) (c := 0) hl
  unfold m_X1_winningSpots
  rw [e1, bs, x_length _ (by omega)]
  cases h1 : lk n own0 fr to with
  | true =>
    have e : vl n fr to l own0 conn0 1 0 = 1 := vl_won (by rw [r2 1 (by decide), or_zero]; exact h1)
    rw [e, if_pos (show nI (1 / 2) = 0 by decide)]
    exact ⟨memo1, rfl⟩
  | false =>
    cases h2 : lk n (own0 ||| setof l) fr to with
    | false =>
      have e : vl n fr to l own0 conn0 1 0 = 0 := vl_lost (by rw [r2 1 (by decide), or_zero]; exact h1) (by rw [r2 1 (by decide), or_zero, r1]; exact h2)
      rw [e, if_pos (show nI (0 / 2) = 0 by decide)]
      exact ⟨memo1, rfl⟩
    | true =>
      have e := root_two (conn0 := conn0) hA h1 h2
      obtain ⟨memo2, p1, p2⟩ := spots_loop hn (fr := fr) (to := to) hA hl hlf hown hsp conn0 h1 h2 l.length 0 FU 0 memo1 (by omega) (FU_ge (by omega)) hM1
      rw [if_neg (nI_ne0 (by omega) (by omega)), if_neg (show ¬ false = true by decide), if_neg (show ¬ true = false by decide)]
      unfold m_X1_winningSpots_c30
      refine ⟨memo2, ?_⟩
      cases conn0 with
      | false => rw [if_pos (show bi false = 0 by decide)]; exact p1
      | true => rw [if_neg (show ¬ bi true = 0 by decide)]; exact p1

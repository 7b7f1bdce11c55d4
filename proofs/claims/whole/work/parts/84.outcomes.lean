/-! outcomes -/
def bt (v : Nat) : Bool := decide (v % 2 = 1)
def btr (b v : Nat) (conn : Bool) : Nat := if bt b = bt v then (if bt v = conn then (if v < b then v else b) else (if b < v then v else b)) else (if bt v = conn then v else b)
theorem btr_mem (b v : Nat) (conn : Bool) : btr b v conn = b ∨ btr b v conn = v := by
  unfold btr
  split
  · split
    · split
      · exact Or.inr rfl
      · exact Or.inl rfl
    · split
      · exact Or.inr rfl
      · exact Or.inl rfl
  · split
    · exact Or.inr rfl
    · exact Or.inl rfl
def ost (conn : Bool) (acc : Option Nat) (v : Nat) : Option Nat := match acc with
  | none => some v
  | some b => some (btr b v conn)
def bst (conn : Bool) (F : Nat → Nat) (free : Int64) : List Nat → Option Nat → Option Nat
  | [], acc => acc
  | x :: t, acc => bst conn F free t (if tb free x = true then ost conn acc (2 + F x) else acc)
theorem ost_le {conn : Bool} {acc : Option Nat} {v M : Nat} (h : ∀ b, acc = some b → b ≤ M) (hv : v ≤ M) : ∀ b, ost conn acc v = some b → b ≤ M := by
  intro b hb
  cases acc with
  | none => have : v = b := Option.some.inj hb; omega
  | some a =>
    have e : btr a v conn = b := Option.some.inj hb
    have := h a rfl
    rcases btr_mem a v conn with q | q <;> omega
theorem bst_le {conn : Bool} {F : Nat → Nat} {free : Int64} {M : Nat} : ∀ (l : List Nat) (acc : Option Nat), (∀ b, acc = some b → b ≤ M) → (∀ x, x ∈ l → tb free x = true → 2 + F x ≤ M) → ∀ b, bst conn F free l acc = some b → b ≤ M
  | [], acc, h, _, b, hb => h b hb
  | x :: t, acc, h, hF, b, hb => by
    unfold bst at hb
    refine bst_le t _ ?_ (fun y hy => hF y (List.mem_cons_of_mem _ hy)) b hb
    by_cases q : tb free x = true
    · rw [if_pos q]; exact ost_le h (hF x (List.mem_cons_self ..) q)
    · rw [if_neg q]; exact h
theorem bst_some {conn : Bool} {F : Nat → Nat} {free : Int64} : ∀ (l : List Nat) (acc : Option Nat), (acc ≠ none ∨ ∃ x, x ∈ l ∧ tb free x = true) → bst conn F free l acc ≠ none
  | [], acc, h => by
    rcases h with h | ⟨x, h, -⟩
    · exact h
    · cases h
  | x :: t, acc, h => by
    unfold bst
    apply bst_some t
    by_cases q : tb free x = true
    · left
      rw [if_pos q]
      cases acc <;> simp [ost]
    · rw [if_neg q]
      rcases h with h | ⟨y, hy, hty⟩
      · exact Or.inl h
      · rcases List.mem_cons.mp hy with e | e
        · subst e; exact absurd hty q
        · exact Or.inr ⟨y, e, hty⟩
theorem bst_congr {conn : Bool} {F F' : Nat → Nat} {free : Int64} : ∀ (l : List Nat) (acc : Option Nat), (∀ x, x ∈ l → tb free x = true → F x = F' x) → bst conn F free l acc = bst conn F' free l acc
  | [], acc, _ => rfl
  | x :: t, acc, h => by
    unfold bst
    rw [bst_congr t _ (fun y hy => h y (List.mem_cons_of_mem _ hy))]
    by_cases q : tb free x = true
    · rw [if_pos q, if_pos q, h x (List.mem_cons_self ..) q]
    · rw [if_neg q, if_neg q]
/-- the outcome of the game with d empty cells -/
def G (n : Nat) (fr to : Int64) (l : List Nat) : Nat → Int64 → Int64 → Bool → Nat
  | 0, own, _, _ => if lk n own fr to = true then 1 else 0
  | d + 1, own, free, conn => if lk n own fr to = true then 1 else if lk n (own ||| free) fr to = false then 0 else (bst conn (fun x => G n fr to l d (if conn = true then own ||| jshl 1 (nI x) else own) (free &&& (jshl 1 (nI x) ^^^ (-1))) (!conn)) free l none).getD 0
theorem G_le (n : Nat) (fr to : Int64) (l : List Nat) : ∀ (d : Nat) (own free : Int64) (conn : Bool), G n fr to l d own free conn ≤ 2 * d + 1
  | 0, own, free, conn => by unfold G; split <;> omega
  | d + 1, own, free, conn => by
    unfold G
    split
    · omega
    · split
      · omega
      · cases h : bst conn (fun x => G n fr to l d (if conn = true then own ||| jshl 1 (nI x) else own) (free &&& (jshl 1 (nI x) ^^^ (-1))) (!conn)) free l none with
        | none => exact Nat.zero_le _
        | some b =>
          have := bst_le (M := 2 * (d + 1) + 1) l none (fun b hb => by cases hb) (fun x _ _ => by
            have := G_le n fr to l d (if conn = true then own ||| jshl 1 (nI x) else own) (free &&& (jshl 1 (nI x) ^^^ (-1))) (!conn)
            show 2 + _ ≤ _
            omega) b h
          exact this
/-! the class's arithmetic of outcomes -/
theorem x_connects {b : Nat} (hb : b < 2 ^ 31) : m_X1_connects (nI b) = bi (bt b) := by
  unfold m_X1_connects
  rw [show nI b &&& (1 : Int32) = nI (b % 2) from pk_andN (n := b) (by omega) (m := 1) 1 (by decide)]
  unfold bi bt
  by_cases q : b % 2 = 1
  · rw [q]; rfl
  · have : b % 2 = 0 := by omega
    rw [this]; rfl
theorem x_better {b v : Nat} (hb : b < 2 ^ 30) (hv : v < 2 ^ 30) (conn : Bool) : m_X1_better (nI b) (nI v) (bi conn) = nI (btr b v conn) := by
  unfold m_X1_better btr
  rw [x_connects (by omega), x_connects (by omega)]
  by_cases q : bt b = bt v
  · rw [if_pos (bi_eq.mpr q), if_pos q]
    by_cases z : bt v = conn
    · rw [if_pos (bi_eq.mpr z), if_pos z]
      show (if nI v < nI b then nI v else nI b) = _
      by_cases y : v < b
      · rw [if_pos ((lt97 hv hb).mpr y), if_pos y]
      · rw [if_neg (fun w => y ((lt97 hv hb).mp w)), if_neg y]
    · rw [if_neg (fun w => z (bi_eq.mp w)), if_neg z]
      show (if nI b < nI v then nI v else nI b) = _
      by_cases y : b < v
      · rw [if_pos ((lt97 hb hv).mpr y), if_pos y]
      · rw [if_neg (fun w => y ((lt97 hb hv).mp w)), if_neg y]
  · rw [if_neg (fun w => q (bi_eq.mp w)), if_neg q]
    by_cases z : bt v = conn
    · rw [if_pos (bi_eq.mpr z), if_pos z]
    · rw [if_neg (fun w => z (bi_eq.mp w)), if_neg z]
/-! the memo -/
def Ent (memo : Nat → Int64) (c v : Nat) : Prop := ∀ j, j < 5 → tb (memo (c / 12)) (5 * (c % 12) + j) = v.testBit j
theorem toI32 (y : Int64) : y.toInt32.toBitVec.toNat = uN y % 2 ^ 32 := by
  rw [Int64.toBitVec_toInt32, BitVec.signExtend_eq_setWidth_of_le _ (by decide), BitVec.toNat_setWidth]
  rfl
theorem x_recall {memo : Nat → Int64} {c v : Nat} (hc : c < 19683) (hv : v < 32) (h : Ent memo c v) : m_X1_recall memo (nI c) = some (nI v) := by
  unfold m_X1_recall
  have e1 : nI c / 12 = nI (c / 12) := pk_div (a := c) (d := 12) (by omega) (by decide) (by decide)
  have e2 : jirem (nI c) 12 = nI (c % 12) := pk_rem (a := c) (d := 12) (by omega) (by decide) (by decide)
  rw [if_neg (nI_pos (by omega)), e1, if_pos (show nI (c / 12) < (1641 : Int32) from nI_lt (b := 1641) (by omega) (by decide)), if_pos (okI_nI (by omega) (by decide)), nI_clamp (by omega), e2, show nI (c % 12) * (5 : Int32) = nI (c % 12 * 5) from pk_mul _ 5]
  rw [pk_and _ (m := 31) 5 (by decide), toI32, uN_ushr _ (by omega)]
  congr 2
  apply Nat.eq_of_testBit_eq
  intro j
  rw [Nat.testBit_mod_two_pow, Nat.testBit_mod_two_pow, Nat.testBit_div_two_pow]
  by_cases q : j < 5
  · have h32 : j < 32 := by omega
    have := h j q
    rw [tb_uN, show 5 * (c % 12) + j = j + c % 12 * 5 by omega] at this
    simp [q, h32, this]
  · have : v.testBit j = false := Nat.testBit_lt_two_pow (Nat.lt_of_lt_of_le hv (Nat.pow_le_pow_right (n := 2) (i := 5) (by decide) (by omega)))
    simp [q, this]
theorem tb_lN {u : Nat} (hu : u < 2 ^ 63) (j : Nat) : tb (lN u) j = u.testBit j := by
  rw [tb_uN]
  have e : uN (lN u) = u := by
    show (BitVec.ofNat 64 u).toNat = u
    rw [BitVec.toNat_ofNat]
    exact Nat.mod_eq_of_lt (by omega)
  rw [e]
theorem x_remember {memo : Nat → Int64} {c u : Nat} (hc : c < 19683) (hu : u < 32) : ∃ memo', m_X1_remember memo (nI c) (nI u) = some memo' ∧ ((Ent memo c 0 ∨ Ent memo c u) → Ent memo' c u) ∧ ∀ c' v, c' ≠ c → Ent memo c' v → Ent memo' c' v := by
  unfold m_X1_remember
  have e1 : nI c / 12 = nI (c / 12) := pk_div (a := c) (d := 12) (by omega) (by decide) (by decide)
  have e2 : jirem (nI c) 12 = nI (c % 12) := pk_rem (a := c) (d := 12) (by omega) (by decide) (by decide)
  rw [if_neg (nI_pos (by omega)), e1, if_neg (show ¬ (1641 : Int32) ≤ nI (c / 12) from nI_ge (b := 1641) (by omega) (by decide)), if_pos (okI_nI (by omega) (by decide)), if_pos (okI_nI (by omega) (by decide)), nI_clamp (by omega), e2, show nI (c % 12) * (5 : Int32) = nI (c % 12 * 5) from pk_mul _ 5, nI_long (by omega)]
  have hbig : ∀ j, 5 ≤ j → u.testBit j = false := fun j hj => Nat.testBit_lt_two_pow (Nat.lt_of_lt_of_le hu (Nat.pow_le_pow_right (n := 2) (i := 5) (by decide) hj))
  refine ⟨_, rfl, fun h j hj => ?_, fun c' v hne h j hj => ?_⟩
  · rw [pk_uLs, tb_or, tb_shl _ (by omega) (by omega), tb_lN (by omega), show 5 * (c % 12) + j - c % 12 * 5 = j by omega]
    have hle : c % 12 * 5 ≤ 5 * (c % 12) + j := by omega
    rcases h with h | h
    · rw [h j hj, Nat.zero_testBit]; simp [hle]
    · rw [h j hj]; simp [hle]
  · by_cases q : c' / 12 = c / 12
    · rw [q, pk_uLs, tb_or, tb_shl _ (by omega) (by omega), tb_lN (by omega), ← q, h j hj]
      have hmod : c' % 12 ≠ c % 12 := by omega
      by_cases z : c % 12 * 5 ≤ 5 * (c' % 12) + j
      · rw [hbig _ (by omega)]; simp
      · simp [z]
    · rw [pk_uLn q]; exact h j hj
/-! the arrangement -/
def sp (l : List Nat) (i : Nat) : Int64 := match l[i]? with
  | some x => jshl 1 (nI x)
  | none => 0
theorem Asc_drop : ∀ {lo : Nat} {l : List Nat}, Asc lo l → ∀ i, ∃ lo', Asc lo' (l.drop i)
  | lo, l, h, 0 => ⟨lo, by rw [List.drop_zero]; exact h⟩
  | lo, [], h, i + 1 => ⟨lo, by rw [List.drop_nil]; exact h⟩
  | lo, x :: t, h, i + 1 => by
    rw [List.drop_succ_cons]
    exact Asc_drop h.2.2 i
theorem arz_loop : ∀ (d w fuel : Nat) (fr to : Int64) (spots memo : Nat → Int64) (N : Nat), N ≤ 19683 → w + d = 1641 → d + 1 ≤ fuel → (∀ z, z < w → memo z = 0) → ∃ memo', m_X1_arrange_c81 fuel (nI N) (nI w) fr to spots memo = some (fr, to, spots, memo') ∧ ∀ z, z * 12 < N → memo' z = 0 := by
  intro d
  induction d with
  | zero =>
    intro w fuel fr to spots memo N hN hw hf hm
    obtain ⟨fu, rfl⟩ : ∃ f, fuel = f + 1 := ⟨fuel - 1, by omega⟩
    have e : w = 1641 := by omega
    subst e
    refine ⟨memo, ?_, fun z hz => hm z (by omega)⟩
    rw [m_X1_arrange_c81, if_pos (by decide)]
  | succ d ih =>
    intro w fuel fr to spots memo N hN hw hf hm
    obtain ⟨fu, rfl⟩ : ∃ f, fuel = f + 1 := ⟨fuel - 1, by omega⟩
    rw [m_X1_arrange_c81, if_neg (show ¬ (1641 : Int32) ≤ nI w from nI_ge (b := 1641) (by omega) (by decide)), show nI w * (12 : Int32) = nI (w * 12) from pk_mul _ 12]
    by_cases q : N ≤ w * 12
    · rw [if_pos (nI_le q (by omega))]
      exact ⟨memo, rfl, fun z hz => hm z (by omega)⟩
    · rw [if_neg (nI_ge (a := w * 12) (b := N) (by omega) (by omega)), if_pos (okI_nI (by omega) (by decide)), nI_clamp (by omega), nI_1]
      refine ih (w + 1) fu fr to spots _ N hN (by omega) (by omega) (fun z hz => ?_)
      by_cases y : z = w
      · subst y; exact pk_uLs
      · rw [pk_uLn y]; exact hm z (by omega)
theorem arr_loop {lo : Nat} {l : List Nat} (hA : Asc lo l) (hl : l.length ≤ 9) (fr to : Int64) : ∀ (d i fuel : Nat) (spots memo : Nat → Int64), i + d = 9 → d + 1 ≤ fuel → (∀ z, z < i → spots z = sp l z) → ∃ spots' memo', m_X1_arrange_c26 fuel (setof (l.drop i)) (nI (3 ^ (if i ≤ l.length then i else l.length))) (nI i) fr to spots memo = some (fr, to, spots', memo') ∧ (∀ z, z < 9 → spots' z = sp l z) ∧ ∀ z, z * 12 < 3 ^ l.length → memo' z = 0 := by
  have hp : ∀ z, z ≤ 9 → (3 : Nat) ^ z ≤ 19683 := fun z hz => Nat.pow_le_pow_right (n := 3) (j := 9) (by decide) hz
  intro d
  induction d with
  | zero =>
    intro i fuel spots memo hi hf hs
    obtain ⟨fu, rfl⟩ : ∃ f, fuel = f + 1 := ⟨fuel - 1, by omega⟩
    have e : i = 9 := by omega
    subst e
    have e2 : (if 9 ≤ l.length then 9 else l.length) = l.length := by split <;> omega
    rw [m_X1_arrange_c26, if_pos (by decide), e2]
    obtain ⟨memo', h1, h2⟩ := arz_loop 1641 0 FU fr to spots memo (3 ^ l.length) (hp _ hl) (by omega) (FU_ge (by omega)) (fun z hz => absurd hz (by omega))
    exact ⟨spots, memo', h1, hs, h2⟩
  | succ d ih =>
    intro i fuel spots memo hi hf hs
    obtain ⟨fu, rfl⟩ : ∃ f, fuel = f + 1 := ⟨fuel - 1, by omega⟩
    rw [m_X1_arrange_c26, if_neg (show ¬ (9 : Int32) ≤ nI i from nI_ge (b := 9) (by omega) (by decide)), if_pos (okI_nI (by omega) (by decide)), nI_clamp (by omega)]
    unfold m_X1_arrange_c60
    rw [nI_1]
    by_cases q : i < l.length
    · obtain ⟨lo', hA'⟩ := Asc_drop hA i
      rw [List.drop_eq_getElem_cons q] at hA' ⊢
      obtain ⟨hlow, hcl⟩ := setof_low hA'
      rw [if_neg (tb_ne hlow.2.1), hcl, low_iso hlow, if_pos (show i ≤ l.length by omega), show nI (3 ^ i) * (3 : Int32) = nI (3 ^ i * 3) from pk_mul _ 3, ← Nat.pow_succ]
      have := ih (i + 1) fu (vp_updL spots i (jshl 1 (nI l[i]))) memo (by omega) (by omega) (fun z hz => by
        by_cases y : z = i
        · subst y
          rw [pk_uLs]
          unfold sp
          rw [List.getElem?_eq_getElem q]
        · rw [pk_uLn y]; exact hs z (by omega))
      rw [if_pos (show i + 1 ≤ l.length by omega)] at this
      exact this
    · have e0 : l.drop i = [] := List.drop_eq_nil_of_le (by omega)
      have e1 : l.drop (i + 1) = [] := List.drop_eq_nil_of_le (by omega)
      have e2 : (if i ≤ l.length then i else l.length) = l.length := by split <;> omega
      have e3 : (if i + 1 ≤ l.length then i + 1 else l.length) = l.length := by split <;> omega
      rw [e0, e2, if_pos (show setof [] = 0 from rfl), show setof [] &&& -setof [] = 0 from zero_and _, show setof [] &&& (setof [] - 1) = 0 from zero_and _, show nI (3 ^ l.length) * (1 : Int32) = nI (3 ^ l.length) from Int32.mul_one _]
      have := ih (i + 1) fu (vp_updL spots i 0) memo (by omega) (by omega) (fun z hz => by
        by_cases y : z = i
        · subst y
          rw [pk_uLs]
          unfold sp
          rw [List.getElem?_eq_none (by omega)]
        · rw [pk_uLn y]; exact hs z (by omega))
      rw [e1, e3] at this
      exact this
theorem x_arrange {lo : Nat} {l : List Nat} (hA : Asc lo l) (hl : l.length ≤ 9) (fr to : Int64) (spots memo : Nat → Int64) : ∃ spots' memo', m_X1_arrange spots memo fr to (setof l) = some (fr, to, spots', memo') ∧ (∀ z, z < 9 → spots' z = sp l z) ∧ ∀ z, z * 12 < 3 ^ l.length → memo' z = 0 := by
  have := arr_loop hA hl fr to 9 0 FU spots memo (by omega) (FU_ge (by omega)) (fun z hz => absurd hz (by omega))
  rw [List.drop_zero, if_pos (Nat.zero_le _), Nat.pow_zero] at this
  exact this

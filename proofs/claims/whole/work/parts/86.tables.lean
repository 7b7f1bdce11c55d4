/-! the reference's tables -/
theorem jl {α β : Type} (e : α) (f : α → β) : jlet e f = f e := rfl
def PWR (power : Nat → Int32) : Prop := ∀ j, j < 10 → power j = nI (3 ^ j)
theorem p39 {z : Nat} (hz : z ≤ 9) : (3 : Nat) ^ z ≤ 19683 := Nat.pow_le_pow_right (n := 3) (j := 9) (by decide) hz
theorem powers_loop : ∀ (d i fuel : Nat) (power : Nat → Int32), i + d = 10 → 1 ≤ i → d + 1 ≤ fuel → (∀ j, j < i → power j = nI (3 ^ j)) → ∃ p', m_X6_powers_c9 fuel (nI i) power = some p' ∧ PWR p' := by
  intro d
  induction d with
  | zero =>
    intro i fuel power hi h1 hf hp
    obtain ⟨fu, rfl⟩ : ∃ f, fuel = f + 1 := ⟨fuel - 1, by omega⟩
    have e : i = 10 := by omega
    subst e
    exact ⟨power, by rw [m_X6_powers_c9, if_pos (by decide)], hp⟩
  | succ d ih =>
    intro i fuel power hi h1 hf hp
    obtain ⟨fu, rfl⟩ : ∃ f, fuel = f + 1 := ⟨fuel - 1, by omega⟩
    rw [m_X6_powers_c9, if_neg (show ¬ (10 : Int32) ≤ nI i from nI_ge (b := 10) (by omega) (by decide)), nI_m1 (by omega), if_pos (okI_nI (by omega) (by decide)), if_pos (okI_nI (by omega) (by decide)), nI_clamp (by omega), nI_clamp (by omega), nI_1, hp (i - 1) (by omega)]
    refine ih (i + 1) fu _ (by omega) (by omega) (by omega) (fun j hj => ?_)
    by_cases q : j = i
    · subst q
      rw [upd_at, show (3 : Int32) * nI (3 ^ (j - 1)) = nI (3 * 3 ^ (j - 1)) from pk_mul 3 _]
      congr 1
      obtain ⟨z, rfl⟩ : ∃ z, j = z + 1 := ⟨j - 1, by omega⟩
      rw [Nat.add_sub_cancel, Nat.pow_succ, Nat.mul_comm]
    · rw [upd_ne _ _ q]; exact hp j (by omega)
theorem m_powers (power : Nat → Int32) : ∃ p', m_X6_powers power = some p' ∧ PWR p' := by
  unfold m_X6_powers
  refine powers_loop 9 1 FU _ (by omega) (by omega) (FU_ge (by omega)) (fun j hj => ?_)
  have e : j = 0 := by omega
  subst e
  exact upd_at _ _ _
theorem m_digit {power : Nat → Int32} (hp : PWR power) {c i : Nat} (hc : c < 19683) (hi : i < 10) : m_X6_digit power (nI c) (nI i) = some (nI (dg c i)) := by
  have h3 : (3 : Nat) ^ i ≤ 19683 := p39 (by omega)
  have h0 : 0 < (3 : Nat) ^ i := Nat.pow_pos (by decide)
  unfold m_X6_digit
  rw [if_pos (okI_nI hi (by decide)), nI_clamp (by omega), hp i hi, if_neg (nI_ne0 h0 (by omega)), pk_div (by omega) h0 (by omega)]
  have : c / 3 ^ i ≤ c := Nat.div_le_self _ _
  rw [show jirem (nI (c / 3 ^ i)) (3 : Int32) = nI (c / 3 ^ i % 3) from pk_rem (a := c / 3 ^ i) (d := 3) (by omega) (by decide) (by decide)]
  rfl
theorem div_step (c i : Nat) : c / 3 ^ i / 3 = c / 3 ^ (i + 1) := by rw [Nat.div_div_eq_div_mul, ← Nat.pow_succ]
theorem laid_loop {power hole : Nat → Int32} (hp : PWR power) {l : List Nat} (hS : Sto l hole) (hl : l.length ≤ 9) {c p : Nat} (hc : c < 19683) (hp2 : p < 2) : ∀ (d i fuel : Nat) (acc : Int64), i + d = l.length → d + 1 ≤ fuel → m_X6_laid_c9 (nI l.length) power hole (nI c) (nI p) fuel acc (nI i) = some (acc ||| dep3 (p + 1) (l.drop i) (c / 3 ^ i)) := by
  intro d
  induction d with
  | zero =>
    intro i fuel acc hi hf
    obtain ⟨fu, rfl⟩ : ∃ f, fuel = f + 1 := ⟨fuel - 1, by omega⟩
    have e : i = l.length := by omega
    subst e
    rw [m_X6_laid_c9, if_pos (nI_le (Nat.le_refl _) (by omega)), List.drop_eq_nil_of_le (Nat.le_refl _)]
    show some acc = some (acc ||| 0)
    rw [or_zero]
  | succ d ih =>
    intro i fuel acc hi hf
    obtain ⟨fu, rfl⟩ : ∃ f, fuel = f + 1 := ⟨fuel - 1, by omega⟩
    have q : i < l.length := by omega
    have hx : l[i]? = some l[i] := List.getElem?_eq_getElem q
    rw [m_X6_laid_c9, if_neg (nI_ge q (by omega)), m_digit hp hc (by omega), bs, nI_1, List.drop_eq_getElem_cons q]
    have hdg := dg_lt c i
    have e2 : dep3 (p + 1) (l[i] :: l.drop (i + 1)) (c / 3 ^ i) = (if dg c i = p + 1 then jshl 1 (nI l[i]) else 0) ||| dep3 (p + 1) (l.drop (i + 1)) (c / 3 ^ (i + 1)) := by
      rw [← div_step]; rfl
    rw [e2, or_assoc3]
    unfold m_X6_laid_c45
    by_cases z : dg c i = p + 1
    · rw [if_pos (by rw [z]), if_pos (okI_nI (by omega) (by decide)), nI_clamp (by omega), hS i _ hx, nI_1, if_pos z]
      exact ih (i + 1) fu _ (by omega) (by omega)
    · rw [if_neg (fun w => z ((nI_eq (by omega) (by omega)).mp w)), nI_1, if_neg z]
      exact ih (i + 1) fu _ (by omega) (by omega)
theorem m_laid {power hole : Nat → Int32} (hp : PWR power) {l : List Nat} (hS : Sto l hole) (hl : l.length ≤ 9) {c p : Nat} (hc : c < 19683) (hp2 : p < 2) (s0 s1 : Int64) : m_X6_laid s0 s1 (nI l.length) power hole (nI c) (nI p) = some (m_X3_stonesOf s0 s1 (nI p) ||| dep3 (p + 1) l c) := by
  have := laid_loop hp hS hl hc hp2 l.length 0 FU (m_X6_own s0 s1 (nI p)) (by omega) (FU_ge (by omega))
  rw [List.drop_zero, Nat.pow_zero, Nat.div_one] at this
  exact this
theorem many_loop {power : Nat → Int32} (hp : PWR power) {h : Nat} (hl : h ≤ 9) {c : Nat} (hc : c < 19683) : ∀ (d i fuel a : Nat), i + d = h → d + 1 ≤ fuel → m_X6_laidMany_c4 (nI h) power (nI c) fuel (nI a) (nI i) = some (nI (a + nzn d (c / 3 ^ i))) := by
  intro d
  induction d with
  | zero =>
    intro i fuel a hi hf
    obtain ⟨fu, rfl⟩ : ∃ f, fuel = f + 1 := ⟨fuel - 1, by omega⟩
    have e : i = h := by omega
    subst e
    rw [m_X6_laidMany_c4, if_pos (nI_le (Nat.le_refl _) (by omega))]
    rfl
  | succ d ih =>
    intro i fuel a hi hf
    obtain ⟨fu, rfl⟩ : ∃ f, fuel = f + 1 := ⟨fuel - 1, by omega⟩
    rw [m_X6_laidMany_c4, if_neg (nI_ge (show i < h by omega) (by omega)), m_digit hp hc (by omega), bs]
    unfold m_X6_laidMany_c27 nzn
    rw [div_step, nI_1]
    have hdg := dg_lt c i
    by_cases z : dg c i = 0
    · rw [if_pos (show nI (dg c i) ≤ 0 by rw [z]; decide), if_pos (show c / 3 ^ i % 3 = 0 from z), show nI a + (0 : Int32) = nI (a + 0) from nI_add a 0, ih (i + 1) fu (a + 0) (by omega) (by omega), Nat.add_assoc]
    · rw [if_neg (show ¬ nI (dg c i) ≤ 0 from nI_ge (a := 0) (b := dg c i) (by omega) (by omega) |> fun w => w), if_neg (show ¬ c / 3 ^ i % 3 = 0 from z), nI_1, ih (i + 1) fu (a + 1) (by omega) (by omega), Nat.add_assoc]
theorem m_many {power : Nat → Int32} (hp : PWR power) {h : Nat} (hl : h ≤ 9) {c : Nat} (hc : c < 19683) : m_X6_laidMany (nI h) power (nI c) = some (nI (nzn h c)) := by
  have := many_loop hp hl hc h 0 FU 0 (by omega) (FU_ge (by omega))
  rw [Nat.pow_zero, Nat.div_one, Nat.zero_add] at this
  exact this
/-! the reference's choice among the next positions -/
theorem enc_lt0 {o : Option Nat} (h : ∀ b, o = some b → b < 2 ^ 31) : enc o < 0 ↔ o = none := by
  cases o with
  | none => exact ⟨fun _ => rfl, fun _ => by decide⟩
  | some b => exact ⟨fun w => absurd w (nI_pos (h b rfl)), fun w => by cases w⟩
/-- best and worst of the reference beside the class's one number -/
def Rel (conn : Bool) (acc best worst : Option Nat) : Prop := match acc with
  | none => best = none ∧ worst = none
  | some v => if bt v = conn then best = some (v / 2) ∧ (∀ w, worst = some w → w ≤ 100) else best = none ∧ worst = some (v / 2)
def wo (p : Nat) (b : Bool) : Nat := if b = true then p else 1 - p
theorem wo_lt {p : Nat} (hp : p < 2) (b : Bool) : wo p b < 2 := by unfold wo; split <;> omega
theorem wo_eq {p : Nat} (hp : p < 2) {a b : Bool} : wo p a = wo p b ↔ a = b := by
  unfold wo
  cases a <;> cases b <;> simp <;> omega
theorem wo_not {p : Nat} (hp : p < 2) (b : Bool) : 1 - wo p b = wo p (!b) := by
  unfold wo
  cases b <;> simp <;> omega
theorem dcd_loop {power won lasts : Nat → Int32} (hp : PWR power) {l : List Nat} (hl : l.length ≤ 9) {c p : Nat} (hc : c < 3 ^ l.length) (hp2 : p < 2) (conn : Bool) (F : Nat → Nat) (hF : ∀ (i x : Nat), l[i]? = some x → dg c i = 0 → F x ≤ 50 ∧ won (c + (wo p conn + 1) * 3 ^ i) = nI (wo p (bt (F x))) ∧ lasts (c + (wo p conn + 1) * 3 ^ i) = nI (F x / 2)) (free : Int64) (hfree : ∀ (i x : Nat), l[i]? = some x → tb free x = decide (dg c i = 0)) : ∀ (d i fuel : Nat) (acc best worst : Option Nat), i + d = l.length → d + 1 ≤ fuel → Rel conn acc best worst → (∀ b, acc = some b → b ≤ 100) → ∀ v, bst conn F free (l.drop i) acc = some v → m_X6_decides_c8 (nI l.length) power (nI c) (nI (wo p conn)) fuel (enc best) (enc worst) (nI i) won lasts = some (upd won c (nI (wo p (bt v))), upd lasts c (nI (v / 2))) := by
  have h19 := p39 hl
  have hwl := wo_lt hp2 conn
  intro d
  induction d with
  | zero =>
    intro i fuel acc best worst hi hf hR hacc v hv
    obtain ⟨fu, rfl⟩ : ∃ f, fuel = f + 1 := ⟨fuel - 1, by omega⟩
    have e : i = l.length := by omega
    subst e
    rw [List.drop_eq_nil_of_le (Nat.le_refl _)] at hv
    have ha : acc = some v := hv
    subst ha
    have hv100 := hacc v rfl
    rw [m_X6_decides_c8, if_pos (nI_le (Nat.le_refl _) (by omega))]
    unfold m_X6_decides_c122
    have ok : okI (nI c) 19683 = true := okI_nI (by omega) (by decide)
    unfold Rel at hR
    by_cases q : bt v = conn
    · simp only [if_pos q] at hR
      rw [hR.1, if_neg (show ¬ enc (some (v / 2)) < 0 from nI_pos (by omega)), if_pos ok, if_neg (show ¬ enc (some (v / 2)) < 0 from nI_pos (by omega)), if_pos ok, q, nI_clamp (by omega)]
      rfl
    · simp only [if_neg q] at hR
      have e1 : (1 : Int32) - nI (wo p conn) = nI (wo p (bt v)) := by
        have : bt v = !conn := by cases h1 : bt v <;> cases h2 : conn <;> simp_all
        rw [this, ← wo_not hp2]
        have : wo p conn = 0 ∨ wo p conn = 1 := by omega
        rcases this with w | w <;> rw [w] <;> decide
      rw [hR.1, hR.2, if_pos (show enc none < 0 by decide), if_pos ok, if_pos (show enc none < 0 by decide), if_pos ok, e1, nI_clamp (by omega)]
      rfl
  | succ d ih =>
    intro i fuel acc best worst hi hf hR hacc v hv
    obtain ⟨fu, rfl⟩ : ∃ f, fuel = f + 1 := ⟨fuel - 1, by omega⟩
    have q : i < l.length := by omega
    have hx : l[i]? = some l[i] := List.getElem?_eq_getElem q
    rw [List.drop_eq_getElem_cons q] at hv
    unfold bst at hv
    rw [hfree i _ hx] at hv
    rw [m_X6_decides_c8, if_neg (nI_ge q (by omega)), m_digit hp (by omega) (by omega), bs]
    have hdg := dg_lt c i
    by_cases z : dg c i = 0
    · obtain ⟨f1, f2, f3⟩ := hF i _ hx z
      have hlt := code_lt (k := wo p conn + 1) (by omega) q z hc
      rw [if_pos (decide_eq_true z)] at hv
      have ecode : nI c + (nI (wo p conn) + 1) * power (nI i).toNatClampNeg = nI (c + (wo p conn + 1) * 3 ^ i) := by
        rw [nI_clamp (by omega), hp i (by omega), nI_1, pk_mul, nI_add]
      rw [if_pos (show nI (dg c i) = 0 by rw [z]; rfl), if_pos (okI_nI (by omega) (by decide)), ecode, if_pos (okI_nI (by omega) (by decide)), nI_clamp (by omega), jl, if_pos (okI_nI (by omega) (by decide)), f2, f3, nI_1]
      generalize F l[i] = fx at *
      unfold m_X6_decides_c74 m_X6_decides_c98 m_X6_decides_c80 m_X6_decides_c100
      rw [nI_1]
      have hb2 : bt (2 + fx) = bt fx := by unfold bt; rw [show (2 + fx) % 2 = fx % 2 by omega]
      have hhalf : (2 + fx) / 2 = fx / 2 + 1 := by omega
      have hacc' : ∀ b, ost conn acc (2 + fx) = some b → b ≤ 100 := ost_le hacc (by omega)
      by_cases y : bt fx = conn
      · rw [if_pos (show nI (wo p (bt fx)) = nI (wo p conn) by rw [y])]
        have goal : ∀ b', Rel conn (ost conn acc (2 + fx)) (some b') worst → m_X6_decides_c8 (nI l.length) power (nI c) (nI (wo p conn)) fu (nI b') (enc worst) (nI (i + 1)) won lasts = some (upd won c (nI (wo p (bt v))), upd lasts c (nI (v / 2))) := fun b' hb' => ih (i + 1) fu _ (some b') worst (by omega) (by omega) hb' hacc' v hv
        cases acc with
        | none =>
          obtain ⟨r1, r2⟩ := hR
          subst r1
          rw [if_pos (show enc none < 0 by decide)]
          refine goal _ ?_
          show if bt (2 + fx) = conn then _ else _
          rw [hb2, if_pos y, hhalf]
          exact ⟨rfl, fun w hw => by rw [r2] at hw; cases hw⟩
        | some a =>
          have ha := hacc a rfl
          unfold Rel at hR
          by_cases x : bt a = conn
          · simp only [if_pos x] at hR
            obtain ⟨r1, r2⟩ := hR
            subst r1
            have hk : ∀ b', (btr a (2 + fx) conn) / 2 = b' → bt (btr a (2 + fx) conn) = conn → Rel conn (ost conn (some a) (2 + fx)) (some b') worst := by
              intro b' e1 e2
              show if bt (btr a (2 + fx) conn) = conn then _ else _
              rw [if_pos e2, e1]
              exact ⟨rfl, r2⟩
            have ebt : btr a (2 + fx) conn = if 2 + fx < a then 2 + fx else a := by
              unfold btr
              rw [hb2, x, y, if_pos rfl, if_pos rfl]
            have par : a % 2 = fx % 2 := by
              have : bt a = bt fx := by rw [x, y]
              unfold bt at this
              rw [decide_eq_decide] at this
              omega
            rw [if_neg (show ¬ enc (some (a / 2)) < 0 from nI_pos (by omega))]
            by_cases w : a / 2 ≤ fx / 2 + 1
            · rw [if_pos (show enc (some (a / 2)) ≤ nI (fx / 2 + 1) from nI_le w (by omega))]
              refine goal _ (hk _ ?_ ?_)
              · rw [ebt, if_neg (by omega)]
              · rw [ebt, if_neg (by omega), x]
            · rw [if_neg (show ¬ enc (some (a / 2)) ≤ nI (fx / 2 + 1) from nI_ge (by omega) (by omega))]
              refine goal _ (hk _ ?_ ?_)
              · rw [ebt, if_pos (by omega), hhalf]
              · rw [ebt, if_pos (by omega), hb2, y]
          · simp only [if_neg x] at hR
            obtain ⟨r1, r2⟩ := hR
            subst r1
            rw [if_pos (show enc none < 0 by decide)]
            refine goal _ ?_
            have ebt : btr a (2 + fx) conn = 2 + fx := by
              unfold btr
              rw [hb2, y, if_neg x, if_pos rfl]
            show if bt (btr a (2 + fx) conn) = conn then _ else _
            rw [ebt, hb2, if_pos y, hhalf]
            refine ⟨rfl, fun w hw => ?_⟩
            rw [r2] at hw
            have : a / 2 = w := Option.some.inj hw
            omega
      · rw [if_neg (show ¬ nI (wo p (bt fx)) = nI (wo p conn) from fun w => y ((wo_eq hp2).mp ((nI_eq (by have := wo_lt hp2 (bt fx); omega) (by omega)).mp w)))]
        have goal : ∀ w', Rel conn (ost conn acc (2 + fx)) best (some w') → m_X6_decides_c8 (nI l.length) power (nI c) (nI (wo p conn)) fu (enc best) (nI w') (nI (i + 1)) won lasts = some (upd won c (nI (wo p (bt v))), upd lasts c (nI (v / 2))) := fun w' hw' => ih (i + 1) fu _ best (some w') (by omega) (by omega) hw' hacc' v hv
        have cmp : ∀ w0, w0 ≤ 100 → (nI (fx / 2 + 1) ≤ enc (some w0) ↔ fx / 2 + 1 ≤ w0) := by
          intro w0 h0
          constructor
          · intro h
            rcases Nat.lt_or_ge w0 (fx / 2 + 1) with g | g
            · exact absurd h (nI_ge g (by omega))
            · exact g
          · intro h
            exact nI_le h (by omega)
        cases acc with
        | none =>
          obtain ⟨r1, r2⟩ := hR
          subst r2
          rw [if_neg (show ¬ nI (fx / 2 + 1) ≤ enc none from fun w => absurd w (by
            intro w
            have h1 : (-1 : Int32) < 0 := by decide
            exact absurd (Int32.lt_of_le_of_lt w h1) (nI_pos (by omega))))]
          refine goal _ ?_
          show if bt (2 + fx) = conn then _ else _
          rw [hb2, if_neg y, hhalf]
          exact ⟨r1, rfl⟩
        | some a =>
          have ha := hacc a rfl
          unfold Rel at hR
          by_cases x : bt a = conn
          · simp only [if_pos x] at hR
            obtain ⟨r1, r2⟩ := hR
            have ebt : btr a (2 + fx) conn = a := by
              unfold btr
              rw [hb2, if_neg (fun w => y (by rw [← w]; exact x)), if_neg y]
            have hk : ∀ w', w' ≤ 100 → Rel conn (ost conn (some a) (2 + fx)) best (some w') := by
              intro w' hw'
              show if bt (btr a (2 + fx) conn) = conn then _ else _
              rw [ebt, if_pos x]
              exact ⟨r1, fun w hw => by have : w' = w := Option.some.inj hw; omega⟩
            cases worst with
            | none =>
              rw [if_neg (show ¬ nI (fx / 2 + 1) ≤ enc none from fun w => absurd w (by
                intro w
                have h1 : (-1 : Int32) < 0 := by decide
                exact absurd (Int32.lt_of_le_of_lt w h1) (nI_pos (by omega))))]
              exact goal _ (hk _ (by omega))
            | some w0 =>
              have hw0 := r2 w0 rfl
              by_cases g : fx / 2 + 1 ≤ w0
              · rw [if_pos ((cmp w0 hw0).mpr g)]
                exact goal _ (hk _ hw0)
              · rw [if_neg (fun w => g ((cmp w0 hw0).mp w))]
                exact goal _ (hk _ (by omega))
          · simp only [if_neg x] at hR
            obtain ⟨r1, r2⟩ := hR
            subst r2
            have exy : bt a = bt fx := by cases h1 : bt a <;> cases h2 : bt fx <;> cases h3 : conn <;> simp_all
            have par : a % 2 = fx % 2 := by
              unfold bt at exy
              rw [decide_eq_decide] at exy
              omega
            have ebt : btr a (2 + fx) conn = if a < 2 + fx then 2 + fx else a := by
              unfold btr
              rw [hb2, if_pos exy, if_neg y]
            have hk : ∀ w', (btr a (2 + fx) conn) / 2 = w' → ¬ bt (btr a (2 + fx) conn) = conn → Rel conn (ost conn (some a) (2 + fx)) best (some w') := by
              intro w' e1 e2
              show if bt (btr a (2 + fx) conn) = conn then _ else _
              rw [if_neg e2, e1]
              exact ⟨r1, rfl⟩
            by_cases g : fx / 2 + 1 ≤ a / 2
            · rw [if_pos ((cmp (a / 2) (by omega)).mpr g)]
              refine goal _ (hk _ ?_ ?_)
              · rw [ebt]; split <;> omega
              · rw [ebt]
                split
                · rw [hb2]; exact y
                · exact x
            · rw [if_neg (fun w => g ((cmp (a / 2) (by omega)).mp w))]
              refine goal _ (hk _ ?_ ?_)
              · rw [ebt, if_pos (by omega), hhalf]
              · rw [ebt, if_pos (by omega), hb2]; exact y
    · rw [if_neg (show ¬ decide (dg c i = 0) = true by rw [decide_eq_true_eq]; exact z)] at hv
      rw [if_neg (nI_ne0 (by omega) (by omega))]
      unfold m_X6_decides_c100
      rw [nI_1]
      exact ih (i + 1) fu acc best worst (by omega) (by omega) hR hacc v hv
theorem m_decides {power won lasts : Nat → Int32} (hp : PWR power) {lo : Nat} {l : List Nat} (hA : Asc lo l) (hl : l.length ≤ 9) {c p : Nat} (hc : c < 3 ^ l.length) (hp2 : p < 2) (conn : Bool) (F : Nat → Nat) (hF : ∀ (i x : Nat), l[i]? = some x → dg c i = 0 → F x ≤ 50 ∧ won (c + (wo p conn + 1) * 3 ^ i) = nI (wo p (bt (F x))) ∧ lasts (c + (wo p conn + 1) * 3 ^ i) = nI (F x / 2)) {v : Nat} (hv : bst conn F (dep3 0 l c) l none = some v) : m_X6_decides (nI l.length) won lasts power (nI c) (nI (wo p conn)) = some (upd won c (nI (wo p (bt v))), upd lasts c (nI (v / 2))) := by
  refine dcd_loop hp hl hc hp2 conn F hF (dep3 0 l c) (fun i x hx => tb_dep3 0 hA c i x hx) l.length 0 FU none none none (by omega) (FU_ge (by omega)) ⟨rfl, rfl⟩ (fun b hb => by cases hb) v ?_
  rw [List.drop_zero]
  exact hv

/-! the count of bits -/
def uN (x : Int64) : Nat := x.toBitVec.toNat
theorem uN_lt (x : Int64) : uN x < 2 ^ 64 := x.toBitVec.isLt
theorem uN_and (x y : Int64) : uN (x &&& y) = uN x &&& uN y := by unfold uN; rw [Int64.toBitVec_and, BitVec.toNat_and]
theorem uN_add {x y : Int64} (h : uN x + uN y < 2 ^ 64) : uN (x + y) = uN x + uN y := by
  unfold uN at *; rw [Int64.toBitVec_add, BitVec.toNat_add]; exact Nat.mod_eq_of_lt h
theorem uN_sub {x y : Int64} (h : uN y ≤ uN x) : uN (x - y) = uN x - uN y := by
  unfold uN at *; rw [Int64.toBitVec_sub]; exact BitVec.toNat_sub_of_le h
theorem uN_ushr (x : Int64) {s : Nat} (hs : s < 64) : uN (jushr x (nI s)) = uN x / 2 ^ s := by
  unfold uN jushr
  have e : (x.toUInt64 >>> ((nI s).toInt64.toUInt64 &&& Int64.toUInt64 63)).toInt64.toBitVec = x.toBitVec >>> s := by
    show (x.toUInt64 >>> ((nI s).toInt64.toUInt64 &&& Int64.toUInt64 63)).toBitVec = _
    rw [UInt64.toBitVec_shiftRight]
    rw [BitVec.ushiftRight_eq', BitVec.toNat_umod]
    have h9 := sh63u s hs
    have e64 : (64 : BitVec 64).toNat = 64 := rfl
    rw [e64, h9]
    rfl
  rw [e, BitVec.toNat_ushiftRight, Nat.shiftRight_eq_div_pow]
theorem land_split {k d m h M : Nat} (hd : d < 2 ^ k) (hm : m < 2 ^ k) : (2 ^ k * h + d) &&& (2 ^ k * M + m) = 2 ^ k * (h &&& M) + (d &&& m) := by
  apply Nat.eq_of_testBit_eq
  intro j
  rw [Nat.testBit_and, Nat.testBit_two_pow_mul_add _ hd, Nat.testBit_two_pow_mul_add _ hm, Nat.testBit_two_pow_mul_add _ (Nat.and_lt_two_pow d hm)]
  split <;> rw [Nat.testBit_and]
/-- byte for byte -/
def mpb (f : Nat → Nat) : Nat → Nat → Nat
  | 0, _ => 0
  | k + 1, x => 256 * mpb f k (x / 256) + f (x % 256)
def rpb (m : Nat) : Nat → Nat
  | 0 => 0
  | k + 1 => 256 * rpb m k + m
theorem mpb_id : ∀ (k x : Nat), x < 256 ^ k → mpb (fun b => b) k x = x := by
  intro k
  induction k with
  | zero => intro x h; unfold mpb; simp at h; omega
  | succ k ih =>
    intro x h
    unfold mpb
    rw [ih (x / 256) (by rw [Nat.pow_succ] at h; exact Nat.div_lt_of_lt_mul (by rw [Nat.mul_comm]; exact h))]
    omega
theorem mpb_add (f g : Nat → Nat) : ∀ (k x : Nat), mpb f k x + mpb g k x = mpb (fun b => f b + g b) k x := by
  intro k
  induction k with
  | zero => intro x; rfl
  | succ k ih =>
    intro x
    unfold mpb
    rw [← ih (x / 256)]
    omega
theorem mpb_sub {f g : Nat → Nat} (h : ∀ b, b < 256 → g b ≤ f b) : ∀ (k x : Nat), mpb g k x ≤ mpb f k x ∧ mpb f k x - mpb g k x = mpb (fun b => f b - g b) k x := by
  intro k
  induction k with
  | zero => intro x; exact ⟨Nat.le_refl _, rfl⟩
  | succ k ih =>
    intro x
    unfold mpb
    have := ih (x / 256)
    have h2 := h (x % 256) (Nat.mod_lt _ (by decide))
    omega
theorem mpb_comp {f g : Nat → Nat} (h : ∀ b, b < 256 → f b < 256) : ∀ (k x : Nat), mpb g k (mpb f k x) = mpb (fun b => g (f b)) k x := by
  intro k
  induction k with
  | zero => intro x; rfl
  | succ k ih =>
    intro x
    have h2 := h (x % 256) (Nat.mod_lt _ (by decide))
    have e1 : mpb f (k + 1) x / 256 = mpb f k (x / 256) := by
      show (256 * mpb f k (x / 256) + f (x % 256)) / 256 = _
      omega
    have e2 : mpb f (k + 1) x % 256 = f (x % 256) := by
      show (256 * mpb f k (x / 256) + f (x % 256)) % 256 = _
      omega
    show 256 * mpb g k (mpb f (k + 1) x / 256) + g (mpb f (k + 1) x % 256) = _
    rw [e1, e2, ih]
    rfl
theorem mpb_and {m : Nat} (hm : m < 256) : ∀ (k x : Nat), x &&& rpb m k = mpb (fun b => b &&& m) k x := by
  intro k
  induction k with
  | zero => intro x; exact Nat.and_zero x
  | succ k ih =>
    intro x
    show x &&& (256 * rpb m k + m) = 256 * mpb _ k (x / 256) + ((x % 256) &&& m)
    rw [← ih (x / 256)]
    have := land_split (k := 8) (d := x % 256) (m := m) (h := x / 256) (M := rpb m k) (Nat.mod_lt _ (by decide)) hm
    rw [show 2 ^ 8 * (x / 256) + x % 256 = x by omega] at this
    exact this
theorem mpb_shand {m s : Nat} (hm : m < 256) (hs : s ≤ 8) (hf : ∀ b, b < 256 → ∀ c, c < 2 ^ s → (b / 2 ^ s + 2 ^ (8 - s) * c) &&& m = (b / 2 ^ s) &&& m) : ∀ (k x : Nat), (x / 2 ^ s) &&& rpb m k = mpb (fun b => (b / 2 ^ s) &&& m) k x := by
  intro k
  induction k with
  | zero => intro x; exact Nat.and_zero _
  | succ k ih =>
    intro x
    show (x / 2 ^ s) &&& (256 * rpb m k + m) = 256 * mpb _ k (x / 256) + (((x % 256) / 2 ^ s) &&& m)
    rw [← ih (x / 256)]
    have h256 : 2 ^ (8 - s) * 2 ^ s = 256 := by rw [← Nat.pow_add, Nat.sub_add_cancel hs]
    have e1 : x / 2 ^ s / 256 = x / 256 / 2 ^ s := by rw [Nat.div_div_eq_div_mul, Nat.div_div_eq_div_mul, Nat.mul_comm]
    have e3 : x / 2 ^ s = 2 ^ (8 - s) * (x / 256) + (x % 256) / 2 ^ s := by
      conv => lhs; rw [← Nat.div_add_mod x 256, ← h256]
      rw [show 2 ^ (8 - s) * 2 ^ s * (x / (2 ^ (8 - s) * 2 ^ s)) = 2 ^ s * (2 ^ (8 - s) * (x / (2 ^ (8 - s) * 2 ^ s))) by rw [Nat.mul_comm (2 ^ (8 - s)), Nat.mul_assoc]]
      rw [Nat.mul_add_div (Nat.two_pow_pos s), h256]
    have e2 : x / 2 ^ s % 256 = (x % 256) / 2 ^ s + 2 ^ (8 - s) * (x / 256 % 2 ^ s) := by
      rw [e3]
      have hlt : (x % 256) / 2 ^ s < 2 ^ (8 - s) := Nat.div_lt_of_lt_mul (by rw [Nat.mul_comm, h256]; exact Nat.mod_lt _ (by decide))
      have hq := Nat.div_add_mod (x / 256) (2 ^ s)
      have : 2 ^ (8 - s) * (x / 256) + x % 256 / 2 ^ s = 256 * (x / 256 / 2 ^ s) + (2 ^ (8 - s) * (x / 256 % 2 ^ s) + x % 256 / 2 ^ s) := by
        conv => lhs; rw [← hq]
        rw [Nat.mul_add, ← Nat.mul_assoc, h256, Nat.add_assoc]
      rw [this, Nat.mul_add_mod, Nat.mod_eq_of_lt]
      · omega
      · have h3 : x / 256 % 2 ^ s + 1 ≤ 2 ^ s := Nat.mod_lt _ (Nat.two_pow_pos s)
        have h4 := Nat.mul_le_mul_left (2 ^ (8 - s)) h3
        rw [h256, Nat.mul_add] at h4
        omega
    have := land_split (k := 8) (d := x / 2 ^ s % 256) (m := m) (h := x / 2 ^ s / 256) (M := rpb m k) (Nat.mod_lt _ (by decide)) hm
    rw [show 2 ^ 8 * (x / 2 ^ s / 256) + x / 2 ^ s % 256 = x / 2 ^ s by omega] at this
    rw [show (256 : Nat) * rpb m k + m = 2 ^ 8 * rpb m k + m from rfl, this, e1, e2, hf _ (Nat.mod_lt _ (by decide)) _ (Nat.mod_lt _ (Nat.two_pow_pos s))]
theorem mpb_low {f : Nat → Nat} {c : Nat} (h : ∀ b, b < 256 → f b % 16 ≤ c) : ∀ (k x : Nat), mpb f k x % 16 ≤ c := by
  intro k x
  cases k with
  | zero => exact Nat.zero_le c
  | succ k =>
    have := h (x % 256) (Nat.mod_lt _ (by decide))
    show (256 * mpb f k (x / 256) + f (x % 256)) % 16 ≤ c
    omega
theorem mpb_fold {f : Nat → Nat} (h : ∀ b, b < 256 → f b ≤ 68 ∧ f b % 16 ≤ 4) : ∀ (k x : Nat), (mpb f k x + mpb f k x / 16) &&& rpb 15 k = mpb (fun b => (f b + f b / 16) % 16) k x := by
  intro k
  induction k with
  | zero => intro x; exact Nat.and_zero _
  | succ k ih =>
    intro x
    have h1 := h (x % 256) (Nat.mod_lt _ (by decide))
    have h2 := mpb_low (fun b hb => (h b hb).2) k (x / 256)
    show ((256 * mpb f k (x / 256) + f (x % 256)) + (256 * mpb f k (x / 256) + f (x % 256)) / 16) &&& (256 * rpb 15 k + 15) = 256 * mpb _ k (x / 256) + _
    rw [← ih (x / 256)]
    have e : (256 * mpb f k (x / 256) + f (x % 256)) + (256 * mpb f k (x / 256) + f (x % 256)) / 16 = 2 ^ 8 * (mpb f k (x / 256) + mpb f k (x / 256) / 16) + (f (x % 256) + f (x % 256) / 16 + 16 * (mpb f k (x / 256) % 16)) := by omega
    rw [e]
    have := land_split (k := 8) (d := f (x % 256) + f (x % 256) / 16 + 16 * (mpb f k (x / 256) % 16)) (m := 15) (h := mpb f k (x / 256) + mpb f k (x / 256) / 16) (M := rpb 15 k) (by omega) (by decide)
    rw [show (256 : Nat) * rpb 15 k + 15 = 2 ^ 8 * rpb 15 k + 15 from rfl, this]
    have e2 : (f (x % 256) + f (x % 256) / 16 + 16 * (mpb f k (x / 256) % 16)) &&& 15 = (f (x % 256) + f (x % 256) / 16 + 16 * (mpb f k (x / 256) % 16)) % 16 := Nat.and_two_pow_sub_one_eq_mod _ 4
    rw [e2]
    show 256 * _ + _ = 256 * _ + (f (x % 256) + f (x % 256) / 16) % 16
    omega
def f1 (b : Nat) : Nat := b - ((b / 2 ^ 1) &&& 85)
def f2 (b : Nat) : Nat := (f1 b &&& 51) + ((f1 b / 2 ^ 2) &&& 51)
def f3 (b : Nat) : Nat := (f2 b + f2 b / 16) % 16
theorem mpb_bound {f : Nat → Nat} (h : ∀ b, b < 256 → f b < 256) : ∀ (k x : Nat), mpb f k x < 256 ^ k := by
  intro k
  induction k with
  | zero => intro x; exact Nat.one_pos
  | succ k ih =>
    intro x
    have h1 := h (x % 256) (Nat.mod_lt _ (by decide))
    have h2 := ih (x / 256)
    show 256 * mpb f k (x / 256) + f (x % 256) < 256 ^ (k + 1)
    rw [Nat.pow_succ]
    omega
theorem fold8 {w w0 w1 w2 w3 w4 w5 w6 w7 : Nat} (h0 : w0 ≤ 8) (h1 : w1 ≤ 8) (h2 : w2 ≤ 8) (h3 : w3 ≤ 8) (h4 : w4 ≤ 8) (h5 : w5 ≤ 8) (h6 : w6 ≤ 8) (h7 : w7 ≤ 8) (hw : w = 256 * (256 * (256 * (256 * (256 * (256 * (256 * (256 * 0 + w7) + w6) + w5) + w4) + w3) + w2) + w1) + w0) : ∃ v t u, v = w + w / 256 ∧ t = v + v / 65536 ∧ u = t + t / 4294967296 ∧ u < 2 ^ 64 ∧ u % 128 = w0 + w1 + w2 + w3 + w4 + w5 + w6 + w7 := by
  have e1 : w / 256 = 256 * (256 * (256 * (256 * (256 * (256 * w7 + w6) + w5) + w4) + w3) + w2) + w1 := by omega
  have e2 : (w + w / 256) / 65536 = 256 * (256 * (256 * (256 * (256 * w7 + (w6 + w7)) + (w5 + w6)) + (w4 + w5)) + (w3 + w4)) + (w2 + w3) := by omega
  have e3 : (w + w / 256 + (w + w / 256) / 65536) / 4294967296 = 256 * (256 * (256 * w7 + (w6 + w7)) + (w5 + w6 + w7)) + (w4 + w5 + w6 + w7) := by omega
  refine ⟨_, _, _, rfl, rfl, rfl, ?_, ?_⟩
  · rw [e3, e2, e1, hw]
    omega
  · obtain ⟨A, hA⟩ : ∃ A, w = 256 * A + w0 := ⟨_, hw⟩
    obtain ⟨B, hB⟩ : ∃ B, w / 256 = 256 * B + w1 := ⟨_, e1⟩
    obtain ⟨C, hC⟩ : ∃ C, (w + w / 256) / 65536 = 256 * C + (w2 + w3) := ⟨_, e2⟩
    obtain ⟨D, hD⟩ : ∃ D, (w + w / 256 + (w + w / 256) / 65536) / 4294967296 = 256 * D + (w4 + w5 + w6 + w7) := ⟨_, e3⟩
    clear hw e1 e2 e3
    rw [hD, hC, hB, hA]
    clear hA hB hC hD
    omega
theorem bitcount_bytes (x : Int64) : m_J13_bitCount_95d88 x = nI (f3 (uN x % 256) + f3 (uN x / 256 % 256) + f3 (uN x / 256 / 256 % 256) + f3 (uN x / 256 / 256 / 256 % 256) + f3 (uN x / 256 / 256 / 256 / 256 % 256) + f3 (uN x / 256 / 256 / 256 / 256 / 256 % 256) + f3 (uN x / 256 / 256 / 256 / 256 / 256 / 256 % 256) + f3 (uN x / 256 / 256 / 256 / 256 / 256 / 256 / 256 % 256)) := by
  have b1 : ∀ b, b < 256 → f1 b < 256 ∧ ((b / 2 ^ 1) &&& 85) ≤ b ∧ f2 b ≤ 68 ∧ f2 b % 16 ≤ 4 ∧ f2 b < 256 ∧ f3 b ≤ 8 := by decide +kernel
  have q1 : uN (6148914691236517205 : Int64) = rpb 85 8 := by decide +kernel
  have q2 : uN (3689348814741910323 : Int64) = rpb 51 8 := by decide +kernel
  have q3 : uN (1085102592571150095 : Int64) = rpb 15 8 := by decide +kernel
  have p64 : (256 : Nat) ^ 8 = 2 ^ 64 := by decide
  have hx : mpb (fun b => b) 8 (uN x) = uN x := mpb_id 8 (uN x) (by rw [p64]; exact uN_lt x)
  have s1 : uN (jushr x 1 &&& 6148914691236517205) = mpb (fun b => (b / 2 ^ 1) &&& 85) 8 (uN x) := by
    rw [uN_and, q1, show (1 : Int32) = nI 1 from rfl, uN_ushr x (by decide)]
    exact mpb_shand (by decide) (by decide) (by decide +kernel) 8 _
  have s2 := mpb_sub (f := fun b => b) (g := fun b => (b / 2 ^ 1) &&& 85) (fun b hb => (b1 b hb).2.1) 8 (uN x)
  rw [hx, ← s1] at s2
  have s3 := uN_sub s2.1
  rw [s2.2] at s3
  simp only [m_J13_bitCount_95d88, jlet]
  generalize x - (jushr x 1 &&& 6148914691236517205) = a at s3 ⊢
  have s3' : uN a = mpb f1 8 (uN x) := s3
  have s4 : uN (a &&& 3689348814741910323) = mpb (fun b => f1 b &&& 51) 8 (uN x) := by
    rw [uN_and, q2, mpb_and (by decide), s3', mpb_comp (fun b hb => (b1 b hb).1)]
  have s5 : uN (jushr a 2 &&& 3689348814741910323) = mpb (fun b => (f1 b / 2 ^ 2) &&& 51) 8 (uN x) := by
    rw [uN_and, q2, show (2 : Int32) = nI 2 from rfl, uN_ushr a (by decide), mpb_shand (by decide) (by decide) (by decide +kernel), s3', mpb_comp (fun b hb => (b1 b hb).1)]
  have s6 : uN ((a &&& 3689348814741910323) + (jushr a 2 &&& 3689348814741910323)) = mpb f2 8 (uN x) := by
    have e : uN (a &&& 3689348814741910323) + uN (jushr a 2 &&& 3689348814741910323) = mpb f2 8 (uN x) := by
      rw [s4, s5, mpb_add]; rfl
    rw [uN_add (by rw [e, ← p64]; exact mpb_bound (fun b hb => (b1 b hb).2.2.2.2.1) 8 _), e]
  generalize (a &&& 3689348814741910323) + (jushr a 2 &&& 3689348814741910323) = z at s6 ⊢
  have s7 : uN ((z + jushr z 4) &&& 1085102592571150095) = mpb f3 8 (uN x) := by
    have e : uN z + uN (jushr z 4) = mpb f2 8 (uN x) + mpb f2 8 (uN x) / 16 := by
      rw [show (4 : Int32) = nI 4 from rfl, uN_ushr z (by decide), s6]
    have hb : mpb f2 8 (uN x) < 256 ^ 8 := mpb_bound (fun b hb => (b1 b hb).2.2.2.2.1) 8 _
    have hb2 : mpb f2 8 (uN x) ≤ 4919131752989213764 := by
      show 256 * (256 * (256 * (256 * (256 * (256 * (256 * (256 * 0 + f2 _) + f2 _) + f2 _) + f2 _) + f2 _) + f2 _) + f2 _) + f2 _ ≤ _
      have c := fun y => (b1 (y % 256) (Nat.mod_lt _ (by decide))).2.2.1
      have c0 := c (uN x)
      have c1 := c (uN x / 256)
      have c2 := c (uN x / 256 / 256)
      have c3 := c (uN x / 256 / 256 / 256)
      have c4 := c (uN x / 256 / 256 / 256 / 256)
      have c5 := c (uN x / 256 / 256 / 256 / 256 / 256)
      have c6 := c (uN x / 256 / 256 / 256 / 256 / 256 / 256)
      have c7 := c (uN x / 256 / 256 / 256 / 256 / 256 / 256 / 256)
      omega
    rw [uN_and, q3, uN_add (by rw [e]; omega), e, mpb_fold (fun b hb => ⟨(b1 b hb).2.2.1, (b1 b hb).2.2.2.1⟩)]
    rfl
  generalize (z + jushr z 4) &&& 1085102592571150095 = w at s7 ⊢
  have c := fun y => (b1 (y % 256) (Nat.mod_lt _ (by decide))).2.2.2.2.2
  obtain ⟨v, t, u, hv, ht, hu, hlt, hm⟩ := fold8 (c (uN x)) (c (uN x / 256)) (c (uN x / 256 / 256)) (c (uN x / 256 / 256 / 256)) (c (uN x / 256 / 256 / 256 / 256)) (c (uN x / 256 / 256 / 256 / 256 / 256)) (c (uN x / 256 / 256 / 256 / 256 / 256 / 256)) (c (uN x / 256 / 256 / 256 / 256 / 256 / 256 / 256)) s7
  have r1 : uN (w + jushr w 8) = v := by
    have e : uN (jushr w 8) = uN w / 256 := uN_ushr w (s := 8) (by decide)
    rw [uN_add (by rw [e]; omega), e, hv]
  generalize w + jushr w 8 = w1 at r1 ⊢
  have r2 : uN (w1 + jushr w1 16) = t := by
    have e : uN (jushr w1 16) = uN w1 / 65536 := uN_ushr w1 (s := 16) (by decide)
    rw [uN_add (by rw [e, r1]; omega), e, r1, ht]
  generalize w1 + jushr w1 16 = w2 at r2 ⊢
  have r3 : uN (w2 + jushr w2 32) = u := by
    have e : uN (jushr w2 32) = uN w2 / 4294967296 := uN_ushr w2 (s := 32) (by decide)
    rw [uN_add (by rw [e, r2]; omega), e, r2, hu]
  generalize w2 + jushr w2 32 = w3 at r3 ⊢
  have e32 : w3.toInt32.toBitVec.toNat = uN w3 % 2 ^ 32 := by
    rw [Int64.toBitVec_toInt32, BitVec.signExtend_eq_setWidth_of_le _ (by decide), BitVec.toNat_setWidth]
    rfl
  rw [pk_and w3.toInt32 7 (by decide), e32, r3, ← hm]
  congr 1
  omega
theorem tb_uN (x : Int64) (k : Nat) : tb x k = (uN x).testBit k := rfl
def pb (b : Nat) : Nat := (if b.testBit 0 = true then 1 else 0) + (if b.testBit 1 = true then 1 else 0) + (if b.testBit 2 = true then 1 else 0) + (if b.testBit 3 = true then 1 else 0) + (if b.testBit 4 = true then 1 else 0) + (if b.testBit 5 = true then 1 else 0) + (if b.testBit 6 = true then 1 else 0) + (if b.testBit 7 = true then 1 else 0)
theorem pcb_byte (x : Int64) (k : Nat) : pcb x (k + 8) = pcb x k + pb (uN x / 2 ^ k % 256) := by
  have h : ∀ j, j < 8 → tb x (k + j) = (uN x / 2 ^ k % 256).testBit j := by
    intro j hj
    rw [tb_uN, show (256 : Nat) = 2 ^ 8 from rfl, Nat.testBit_mod_two_pow, Nat.testBit_div_two_pow, Nat.add_comm j k]
    simp [hj]
  have h0 := h 0 (by decide)
  have h1 := h 1 (by decide)
  have h2 := h 2 (by decide)
  have h3 := h 3 (by decide)
  have h4 := h 4 (by decide)
  have h5 := h 5 (by decide)
  have h6 := h 6 (by decide)
  have h7 := h 7 (by decide)
  show pcb x k + _ + _ + _ + _ + _ + _ + _ + _ = _
  rw [show k + 0 = k from rfl] at h0
  unfold pb
  rw [← h0, ← h1, ← h2, ← h3, ← h4, ← h5, ← h6, ← h7]
  omega
theorem bitcount (x : Int64) : m_J13_bitCount_95d88 x = nI (pc x) := by
  have key : ∀ b, b < 256 → f3 b = pb b := by decide +kernel
  have k2 := fun y => key (y % 256) (Nat.mod_lt _ (by decide))
  rw [bitcount_bytes]
  have p0 := pcb_byte x 0
  have p1 := pcb_byte x 8
  have p2 := pcb_byte x 16
  have p3 := pcb_byte x 24
  have p4 := pcb_byte x 32
  have p5 := pcb_byte x 40
  have p6 := pcb_byte x 48
  have p7 := pcb_byte x 56
  have d : ∀ a, uN x / a / 256 = uN x / (a * 256) := fun a => Nat.div_div_eq_div_mul _ _ _
  rw [k2, k2, k2, k2, k2, k2, k2, k2, d, d, d, d, d, d]
  congr 1
  unfold pc
  have pz : pcb x 0 = 0 := rfl
  simp only [Nat.zero_add, Nat.reduceAdd, Nat.reducePow, Nat.div_one, Nat.reduceMul] at *
  rw [p7, p6, p5, p4, p3, p2, p1, p0, pz]
  omega

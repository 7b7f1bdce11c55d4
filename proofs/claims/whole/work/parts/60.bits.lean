/-! bits of longs -/
def tb (x : Int64) (k : Nat) : Bool := x.toBitVec.getLsbD k
theorem tb_and (x y : Int64) (k : Nat) : tb (x &&& y) k = (tb x k && tb y k) := by simp [tb]
theorem tb_or (x y : Int64) (k : Nat) : tb (x ||| y) k = (tb x k || tb y k) := by simp [tb]
theorem tb_xor (x y : Int64) (k : Nat) : tb (x ^^^ y) k = (tb x k ^^ tb y k) := by simp [tb]
theorem tb_zero (k : Nat) : tb 0 k = false := by simp [tb]
theorem tb_ge (x : Int64) {k : Nat} (h : 64 ≤ k) : tb x k = false := BitVec.getLsbD_of_ge _ _ h
theorem tb_ones {k : Nat} (h : k < 64) : tb (-1) k = true := by
  have : ∀ k, k < 64 → tb (-1) k = true := by decide
  exact this k h
theorem tb_not (x : Int64) {k : Nat} (h : k < 64) : tb (x ^^^ (-1)) k = !tb x k := by rw [tb_xor, tb_ones h, Bool.xor_true]
theorem tb_ext {x y : Int64} (h : ∀ k, k < 64 → tb x k = tb y k) : x = y := by
  apply Int64.toBitVec_inj.mp
  apply BitVec.eq_of_getLsbD_eq
  exact h
theorem sh63 : ∀ s, s < 64 → ((nI s).toInt64 &&& 63).toBitVec.smod 64 = BitVec.ofNat 64 s := by decide
theorem tb_shl (x : Int64) {s k : Nat} (hs : s < 64) (hk : k < 64) : tb (jshl x (nI s)) k = (decide (s ≤ k) && tb x (k - s)) := by
  unfold tb jshl
  rw [Int64.toBitVec_shiftLeft, sh63 s hs]
  rw [BitVec.shiftLeft_eq', BitVec.getLsbD_shiftLeft]
  have : (BitVec.ofNat 64 s).toNat = s := by rw [BitVec.toNat_ofNat]; exact Nat.mod_eq_of_lt (Nat.lt_trans hs (by decide))
  rw [this]
  by_cases h : s ≤ k
  · have : ¬ k < s := by omega
    simp [hk, h, this]
  · have : k < s := by omega
    simp [hk, h, this]
theorem sh63u : ∀ s, s < 64 → ((nI s).toInt64.toUInt64 &&& Int64.toUInt64 63).toBitVec.toNat % 64 = s := by decide
theorem tb_ushr (x : Int64) {s : Nat} (k : Nat) (hs : s < 64) : tb (jushr x (nI s)) k = tb x (s + k) := by
  unfold tb jushr
  have e : (x.toUInt64 >>> ((nI s).toInt64.toUInt64 &&& Int64.toUInt64 63)).toInt64.toBitVec = x.toBitVec >>> s := by
    show (x.toUInt64 >>> ((nI s).toInt64.toUInt64 &&& Int64.toUInt64 63)).toBitVec = _
    rw [UInt64.toBitVec_shiftRight]
    rw [BitVec.ushiftRight_eq', BitVec.toNat_umod]
    have h9 := sh63u s hs
    have e64 : (64 : BitVec 64).toNat = 64 := rfl
    rw [e64, h9]
    rfl
  rw [e, BitVec.getLsbD_ushiftRight]
theorem tb_one {s k : Nat} (hs : s < 64) (hk : k < 64) : tb (jshl 1 (nI s)) k = decide (k = s) := by
  rw [tb_shl 1 hs hk]
  have h1 : ∀ j, tb 1 j = decide (j = 0) := by
    intro j
    by_cases hj : j < 64
    · have : ∀ j, j < 64 → tb 1 j = decide (j = 0) := by decide
      exact this j hj
    · rw [tb_ge _ (by omega)]
      simp; omega
  rw [h1]
  by_cases h : k = s
  · subst h; simp
  · by_cases h2 : s ≤ k
    · have : ¬ k - s = 0 := by omega
      simp [h, this]
    · simp [h, h2]
/-- x is within y -/
def sub (x y : Int64) : Prop := ∀ k, tb x k = true → tb y k = true
theorem and_one (x : Int64) : (x &&& 1 = 0 ↔ tb x 0 = false) ∧ (x &&& 1 = 1 ↔ tb x 0 = true) := by
  have h1 : ∀ j, j < 64 → tb 1 j = decide (j = 0) := by decide
  have e : x &&& 1 = if tb x 0 = true then 1 else 0 := by
    apply tb_ext
    intro k hk
    rw [tb_and, h1 k hk]
    by_cases h0 : k = 0
    · subst h0
      by_cases h : tb x 0 = true
      · rw [if_pos h, h]; rfl
      · rw [if_neg h, tb_zero]; simp at h; rw [h]; rfl
    · have : (if tb x 0 = true then (1 : Int64) else 0) = 1 ∨ (if tb x 0 = true then (1 : Int64) else 0) = 0 := by split <;> simp
      rcases this with e | e <;> rw [e]
      · rw [h1 k hk]; simp [h0]
      · rw [tb_zero]; simp [h0]
  rw [e]
  by_cases h : tb x 0 = true
  · simp [h]
  · simp at h; simp [h]
theorem sh63s : ∀ s, s < 64 → (((nI s).toInt64 &&& 63).toBitVec.smod 64).toNat = s := by decide
theorem tb_shr0 (x : Int64) {s : Nat} (hs : s < 64) : tb (jshr x (nI s)) 0 = tb x s := by
  unfold tb jshr
  rw [Int64.toBitVec_shiftRight]
  rw [BitVec.sshiftRight_eq', sh63s s hs, BitVec.getLsbD_sshiftRight]
  simp [hs]
theorem has_eq (x : Int64) {s : Nat} (hs : s < 64) : m_X6_has x (nI s) = if tb x s = true then 1 else 0 := by
  unfold m_X6_has
  have h := and_one (jshr x (nI s))
  rw [tb_shr0 x hs] at h
  by_cases ht : tb x s = true
  · have e := h.2.mpr ht
    rw [if_pos ht]
    simp [e]
  · have hf : tb x s = false := by simpa using ht
    have e := h.1.mpr hf
    rw [if_neg ht]
    simp [e]

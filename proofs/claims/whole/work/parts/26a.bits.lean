/-! PURE: single bits of words -/
def bL (y : Int64) (i : Nat) : Bool := y.toBitVec.getLsbD i
theorem bL_ext {x y : Int64} (h : ∀ b, b < 64 → bL x b = bL y b) : x = y := Int64.toBitVec_inj.mp (BitVec.eq_of_getLsbD_eq (fun i hi => h i hi))
theorem bL_and (x y : Int64) (i : Nat) : bL (x &&& y) i = (bL x i && bL y i) := by unfold bL; rw [Int64.toBitVec_and, BitVec.getLsbD_and]
theorem bL_or (x y : Int64) (i : Nat) : bL (x ||| y) i = (bL x i || bL y i) := by unfold bL; rw [Int64.toBitVec_or, BitVec.getLsbD_or]
theorem bL_not (x : Int64) {i : Nat} (hi : i < 64) : bL (x ^^^ (-1)) i = !bL x i := by
  unfold bL
  rw [Int64.toBitVec_xor, BitVec.getLsbD_xor]
  have : (-1 : Int64).toBitVec = BitVec.allOnes 64 := by decide
  rw [this, BitVec.getLsbD_allOnes]
  simp [hi]
theorem bL_0 (i : Nat) : bL 0 i = false := by unfold bL; simp
theorem bL_m1 {i : Nat} (hi : i < 64) : bL (-1) i = true := by
  unfold bL
  have : (-1 : Int64).toBitVec = BitVec.allOnes 64 := by decide
  rw [this, BitVec.getLsbD_allOnes]; simp [hi]
theorem sh63 : ∀ s, s < 64 → ((nI s).toInt64.toUInt64 &&& Int64.toUInt64 63).toBitVec.toNat = s := by decide +kernel
theorem sh63' : ∀ s, s < 64 → ((((nI s).toInt64 &&& 63).toBitVec.smod 64).toNat = s) := by decide +kernel
theorem bL_ushr {y : Int64} {s : Nat} (hs : s < 64) (b : Nat) : bL (J_lushr y (nI s)) b = bL y (s + b) := by
  have e := sh63 s hs
  unfold bL J_lushr
  generalize ((nI s).toInt64.toUInt64 &&& Int64.toUInt64 63) = z at *
  have e2 : (y.toUInt64 >>> z).toInt64.toBitVec = y.toBitVec >>> s := by
    rw [UInt64.toBitVec_toInt64, UInt64.toBitVec_shiftRight]
    show _ >>> (z.toBitVec % 64) = _
    rw [BitVec.ushiftRight_eq', BitVec.toNat_umod, e]
    have : s % BitVec.toNat (64 : BitVec 64) = s := Nat.mod_eq_of_lt hs
    rw [this]; rfl
  rw [e2, BitVec.getLsbD_ushiftRight]
theorem bL_shl {y : Int64} {s : Nat} (hs : s < 64) {b : Nat} (hb : b < 64) : bL (J_lshl y (nI s)) b = (decide (s ≤ b) && bL y (b - s)) := by
  have e := sh63' s hs
  unfold bL J_lshl
  generalize ((nI s).toInt64 &&& 63) = z at *
  have e2 : (y <<< z).toBitVec = y.toBitVec <<< s := by
    rw [Int64.toBitVec_shiftLeft, BitVec.shiftLeft_eq', e]
  rw [e2, BitVec.getLsbD_shiftLeft]
  by_cases q : s ≤ b
  · have : ¬ b < s := by omega
    simp [hb, q, this]
  · have : b < s := by omega
    simp [hb, q, this]
theorem bL_sshr {y : Int64} {s : Nat} (hs : s < 64) : bL (J_lshr y (nI s)) 0 = bL y s := by
  have e := sh63' s hs
  unfold bL J_lshr
  generalize ((nI s).toInt64 &&& 63) = z at *
  have e2 : (y >>> z).toBitVec = y.toBitVec.sshiftRight s := by
    rw [Int64.toBitVec_shiftRight, BitVec.sshiftRight_eq', e]
  rw [e2, BitVec.getLsbD_sshiftRight]
  simp [hs]
theorem bit_1 (y : Int64) : (y &&& 1).toInt32 = if bL y 0 = true then 1 else 0 := by
  have e : y &&& 1 = if bL y 0 = true then 1 else 0 := by
    apply bL_ext
    intro b hb
    rw [bL_and]
    by_cases z : b = 0
    · subst z
      cases h : bL y 0
      · simp [bL_0]
      · simp
    · have h1 : bL 1 b = false := by
        have : ∀ b, b < 64 → b ≠ 0 → bL 1 b = false := by decide
        exact this b hb z
      rw [h1]
      cases h : bL y 0
      · simp [bL_0]
      · simp [h1]
  rw [e]
  cases bL y 0
  · simp
  · simp
theorem cmp_eq {x y : Int64} : lg_cmp x y = 0 ↔ x = y := by
  unfold lg_cmp
  constructor
  · intro h
    by_cases h1 : x > y
    · rw [if_pos h1] at h; exact absurd h (by decide)
    · rw [if_neg h1] at h
      by_cases h2 : x = y
      · exact h2
      · rw [if_neg h2] at h; exact absurd h (by decide)
  · intro h; subst h
    rw [if_neg (Int64.lt_irrefl), if_pos rfl]
/-- x with its bit b made s -/
def put (b : Nat) (s : Bool) (x : Nat) : Nat := if x.testBit b = s then x else x ^^^ 2 ^ b
theorem put_bit (b : Nat) (s : Bool) (x j : Nat) : (put b s x).testBit j = if j = b then s else x.testBit j := by
  unfold put
  by_cases h : x.testBit b = s
  · rw [if_pos h]
    by_cases q : j = b
    · rw [if_pos q, q, h]
    · rw [if_neg q]
  · rw [if_neg h, Nat.testBit_xor, Nat.testBit_two_pow]
    by_cases q : j = b
    · subst q
      simp
      cases hx : x.testBit j <;> cases s <;> simp_all
    · rw [if_neg q]
      have : ¬ b = j := fun z => q z.symm
      simp [this]
theorem put_lt {b : Nat} {s : Bool} {x : Nat} (hb : b < 10) (hx : x < 1024) : put b s x < 1024 := by
  unfold put
  by_cases h : x.testBit b = s
  · rw [if_pos h]; exact hx
  · rw [if_neg h]
    exact Nat.xor_lt_two_pow (n := 10) hx (Nat.pow_lt_pow_right (by decide) hb)
theorem put_hi : ∀ w, w < 16 → ∀ b, b < 64 → ∀ u, u < 4 → ∀ s : Bool, put (u + 6) s (64 * w + b) = 64 * put u s w + b ∧ put u s w < 16 := by decide +kernel
theorem put_lo : ∀ w, w < 16 → ∀ b, b < 64 → ∀ u, u < 6 → ∀ s : Bool, put u s (64 * w + b) = 64 * w + put u s b ∧ put u s b < 64 := by decide +kernel
theorem pt6_b : ∀ u, u < 6 → ∀ b, b < 64 → bL (pt6 u) b = b.testBit u := by decide +kernel
theorem put_a : ∀ b, b < 64 → ∀ u, u < 6 → (b.testBit u = false → put u false b = b ∧ (2 ^ u ≤ b → (b - 2 ^ u).testBit u = true)) ∧ (b.testBit u = true → put u false b = b - 2 ^ u ∧ 2 ^ u ≤ b ∧ (b - 2 ^ u).testBit u = false) := by decide +kernel
theorem put_b : ∀ b, b < 64 → ∀ u, u < 6 → (b.testBit u = true → put u true b = b ∧ (2 ^ u + b < 64 → (2 ^ u + b).testBit u = false)) ∧ (b.testBit u = false → put u true b = 2 ^ u + b ∧ 2 ^ u + b < 64 ∧ (2 ^ u + b).testBit u = true) := by decide +kernel

/-! PURE: how many bits -/
def pcn : Nat → Nat → Nat
  | 0, _ => 0
  | k + 1, m => m % 2 + pcn k (m / 2)
abbrev U (x : Int64) : Nat := x.toBitVec.toNat
def pc (x : Int64) : Nat := pcn 64 (U x)
theorem pcn_le : ∀ k m, pcn k m ≤ k
  | 0, m => Nat.le_refl _
  | k + 1, m => by unfold pcn; have := pcn_le k (m / 2); omega
theorem pcn_zero : ∀ k, pcn k 0 = 0
  | 0 => rfl
  | k + 1 => by unfold pcn; rw [pcn_zero k]
theorem U_lt (x : Int64) : U x < 2 ^ 64 := x.toBitVec.isLt
theorem U_inj {x y : Int64} (h : U x = U y) : x = y := Int64.toBitVec_inj.mp (BitVec.eq_of_toNat_eq h)
theorem U_and (x y : Int64) : U (x &&& y) = U x &&& U y := by unfold U; rw [Int64.toBitVec_and, BitVec.toNat_and]
theorem U_sub {x y : Int64} (h : U y ≤ U x) : U (x - y) = U x - U y := by
  have h1 := U_lt x
  have h2 := U_lt y
  unfold U at *
  rw [Int64.toBitVec_sub, BitVec.toNat_sub]
  omega
theorem U_add {x y : Int64} (h : U x + U y < 2 ^ 64) : U (x + y) = U x + U y := by
  unfold U at *
  rw [Int64.toBitVec_add, BitVec.toNat_add]
  omega
theorem U_0 : U 0 = 0 := by decide
theorem U_1 : U 1 = 1 := by decide
/-! x & (x - 1) -/
theorem land2 (a b : Nat) : (a &&& b) % 2 = (a % 2) * (b % 2) ∧ (a &&& b) / 2 = (a / 2 &&& b / 2) := by
  constructor
  · have h := Nat.and_mod_two_pow (a := a) (b := b) (n := 1)
    simp only [Nat.pow_one] at h
    rw [h]
    have h1 : a % 2 = 0 ∨ a % 2 = 1 := by omega
    have h2 : b % 2 = 0 ∨ b % 2 = 1 := by omega
    rcases h1 with h1 | h1 <;> rcases h2 with h2 | h2 <;> rw [h1, h2] <;> decide
  · exact Nat.and_div_two
theorem land_self (a : Nat) : a &&& a = a := Nat.and_self a
theorem pcn_drop : ∀ k m, 0 < m → m < 2 ^ k → pcn k (m &&& (m - 1)) + 1 = pcn k m
  | 0, m, h1, h2 => by simp at h2; omega
  | k + 1, m, h1, h2 => by
    obtain ⟨l1, l2⟩ := land2 m (m - 1)
    unfold pcn
    rw [l1, l2]
    have hp : 2 ^ (k + 1) = 2 * 2 ^ k := by rw [Nat.pow_succ]; omega
    by_cases hm : m % 2 = 1
    · have e1 : (m - 1) % 2 = 0 := by omega
      have e2 : (m - 1) / 2 = m / 2 := by omega
      rw [e1, e2, land_self]; omega
    · have e0 : m % 2 = 0 := by omega
      have e2 : (m - 1) / 2 = m / 2 - 1 := by omega
      have ih := pcn_drop k (m / 2) (by omega) (by omega)
      rw [e0, e2]; omega
theorem cmp_0 {x : Int64} : lg_cmp x 0 = 0 ↔ x = 0 := by
  unfold lg_cmp
  constructor
  · intro h
    by_cases h1 : x > 0
    · rw [if_pos h1] at h; exact absurd h (by decide)
    · rw [if_neg h1] at h
      by_cases h2 : x = 0
      · exact h2
      · rw [if_neg h2] at h; exact absurd h (by decide)
  · intro h; subst h; decide
theorem ones_z {k : Int32 → Prop} {m : Nat} {c : Nat} (hk : k (nI (c + pc 0))) : p_M_ones_L4 k (m + 1) (nI c) 0 := by
  have e : pc 0 = 0 := by unfold pc; rw [U_0, pcn_zero]
  rw [e] at hk
  unfold p_M_ones_L4
  exact ct (cmp_0.mpr rfl) hk
theorem pc_drop {x : Int64} (hx : x ≠ 0) : pc (x &&& (x - 1)) + 1 = pc x := by
  have hU : 0 < U x := by
    rcases Nat.eq_zero_or_pos (U x) with z | z
    · exact absurd (U_inj (z.trans U_0.symm)) hx
    · exact z
  have e : U (x &&& (x - 1)) = U x &&& (U x - 1) := by rw [U_and, U_sub (by rw [U_1]; omega), U_1]
  unfold pc
  rw [e]
  exact pcn_drop 64 (U x) hU (U_lt x)
theorem l_ones {k : Int32 → Prop} (f : Nat) : ∀ (x : Int64) (c : Nat), pc x ≤ f → k (nI (c + pc x)) → p_M_ones_L4 k (f + 1) (nI c) x := by
  induction f with
  | zero =>
    intro x c hf hk
    by_cases hx : x = 0
    · subst hx; exact ones_z hk
    · have := pc_drop hx; omega
  | succ f ih =>
    intro x c hf hk
    by_cases hx : x = 0
    · subst hx; exact ones_z hk
    · have hd := pc_drop hx
      unfold p_M_ones_L4
      refine cf (fun q => hx (cmp_0.mp q)) ?_
      rw [n_p1]
      refine ih _ (c + 1) (by omega) ?_
      rw [show c + 1 + pc (x &&& (x - 1)) = c + pc x by omega]; exact hk
theorem s_ones {x : Int64} {k : Int32 → Prop} (hk : k (nI (pc x))) : p_M_ones x k := by
  unfold p_M_ones
  refine ⟨64 + 1, l_ones 64 x 0 (by unfold pc; exact pcn_le 64 _) ?_⟩
  rw [Nat.zero_add]; exact hk
/-! the other way -/
theorem U_shr1 (x : Int64) : U (J_lushr x 1) = U x / 2 := by
  have e : ((1 : Int32).toInt64.toUInt64 &&& Int64.toUInt64 63) = 1 := by decide
  unfold U J_lushr; rw [e]; simp [Nat.shiftRight_eq_div_pow]
theorem U_shr2 (x : Int64) : U (J_lushr x 2) = U x / 4 := by
  have e : ((2 : Int32).toInt64.toUInt64 &&& Int64.toUInt64 63) = 2 := by decide
  unfold U J_lushr; rw [e]; simp [Nat.shiftRight_eq_div_pow]
theorem U_shr4 (x : Int64) : U (J_lushr x 4) = U x / 16 := by
  have e : ((4 : Int32).toInt64.toUInt64 &&& Int64.toUInt64 63) = 4 := by decide
  unfold U J_lushr; rw [e]; simp [Nat.shiftRight_eq_div_pow]
theorem U_shr8 (x : Int64) : U (J_lushr x 8) = U x / 256 := by
  have e : ((8 : Int32).toInt64.toUInt64 &&& Int64.toUInt64 63) = 8 := by decide
  unfold U J_lushr; rw [e]; simp [Nat.shiftRight_eq_div_pow]
theorem U_shr16 (x : Int64) : U (J_lushr x 16) = U x / 65536 := by
  have e : ((16 : Int32).toInt64.toUInt64 &&& Int64.toUInt64 63) = 16 := by decide
  unfold U J_lushr; rw [e]; simp [Nat.shiftRight_eq_div_pow]
theorem U_shr32 (x : Int64) : U (J_lushr x 32) = U x / 4294967296 := by
  have e : ((32 : Int32).toInt64.toUInt64 &&& Int64.toUInt64 63) = 32 := by decide
  unfold U J_lushr; rw [e]; simp [Nat.shiftRight_eq_div_pow]
/-- masks of n bytes -/
def mb8 (m : Nat) : Nat → Nat
  | 0 => 0
  | n + 1 => m + 256 * mb8 m n
theorem land256 (a b : Nat) : a &&& b = (a % 256 &&& b % 256) + 256 * (a / 256 &&& b / 256) := by
  have h1 := Nat.and_mod_two_pow (a := a) (b := b) (n := 8)
  have h2 := Nat.and_div_two_pow (a := a) (b := b) (n := 8)
  simp only [show 2 ^ 8 = 256 by decide] at h1 h2
  rw [← h1, ← h2]; omega
theorem mb8_s {m n : Nat} (hm : m < 256) : mb8 m (n + 1) % 256 = m ∧ mb8 m (n + 1) / 256 = mb8 m n := by
  have e : mb8 m (n + 1) = m + 256 * mb8 m n := rfl
  rw [e]
  omega
def f1 (n X : Nat) : Nat := X - (X / 2 &&& mb8 85 n)
def f2 (n X : Nat) : Nat := (X &&& mb8 51 n) + (X / 4 &&& mb8 51 n)
def f3 (n X : Nat) : Nat := (X + X / 16) &&& mb8 15 n
theorem q1 : ∀ b, b < 256 → ∀ c, c < 2 → ((b / 2 + 128 * c) &&& 85) = (b / 2 &&& 85) ∧ (b / 2 &&& 85) ≤ b := by decide +kernel
theorem q2 : ∀ b, b < 256 → ∀ c, c < 4 → ((b / 4 + 64 * c) &&& 51) = (b / 4 &&& 51) := by decide +kernel
theorem q2b : ∀ b, b < 256 → (b &&& 51) + (b / 4 &&& 51) < 256 := by decide +kernel
def g1 (b : Nat) : Nat := b - (b / 2 &&& 85)
def g2 (b : Nat) : Nat := (b &&& 51) + (b / 4 &&& 51)
def g3 (b : Nat) : Nat := (b + b / 16) &&& 15
theorem q3 : ∀ b, b < 256 → g3 (g2 (g1 b)) = pcn 8 b ∧ g2 (g1 b) % 16 ≤ 4 ∧ g2 (g1 b) / 16 ≤ 4 ∧ g1 b < 256 ∧ g2 (g1 b) < 256 := by decide +kernel
theorem f1_s {n X : Nat} : f1 (n + 1) X = g1 (X % 256) + 256 * f1 n (X / 256) := by
  unfold f1 g1
  obtain ⟨m1, m2⟩ := mb8_s (m := 85) (n := n) (by decide)
  rw [land256 (X / 2) (mb8 85 (n + 1)), m1, m2]
  have e1 : X / 2 % 256 = X % 256 / 2 + 128 * (X / 256 % 2) := by omega
  have e2 : X / 2 / 256 = X / 256 / 2 := by omega
  obtain ⟨h1, h2⟩ := q1 (X % 256) (by omega) (X / 256 % 2) (by omega)
  rw [e1, e2, h1]
  have h3 : (X / 256 / 2 &&& mb8 85 n) ≤ X / 256 := Nat.le_trans Nat.and_le_left (by omega)
  omega
theorem f2_s {n b X : Nat} (hb : b < 256) : f2 (n + 1) (b + 256 * X) = g2 b + 256 * f2 n X := by
  unfold f2 g2
  obtain ⟨m1, m2⟩ := mb8_s (m := 51) (n := n) (by decide)
  rw [land256 (b + 256 * X) (mb8 51 (n + 1)), land256 ((b + 256 * X) / 4) (mb8 51 (n + 1)), m1, m2]
  have e1 : (b + 256 * X) % 256 = b := by omega
  have e2 : (b + 256 * X) / 256 = X := by omega
  have e3 : (b + 256 * X) / 4 % 256 = b / 4 + 64 * (X % 4) := by omega
  have e4 : (b + 256 * X) / 4 / 256 = X / 4 := by omega
  rw [e1, e2, e3, e4, q2 b hb (X % 4) (by omega)]
  omega
theorem and15 (a : Nat) : a &&& 15 = a % 16 := Nat.and_two_pow_sub_one_eq_mod (n := 4) a
theorem f3_s {n b X : Nat} (h1 : b % 16 ≤ 4) (h2 : b / 16 ≤ 4) (h3 : X % 16 ≤ 4) : f3 (n + 1) (b + 256 * X) = g3 b + 256 * f3 n X := by
  unfold f3 g3
  obtain ⟨m1, m2⟩ := mb8_s (m := 15) (n := n) (by decide)
  rw [land256 _ (mb8 15 (n + 1)), m1, m2, and15, and15]
  have e1 : (b + 256 * X + (b + 256 * X) / 16) % 256 % 16 = (b + b / 16) % 16 := by omega
  have e2 : (b + 256 * X + (b + 256 * X) / 16) / 256 = X + X / 16 := by omega
  rw [e1, e2]
/-- the bytes' counts -/
def byc : Nat → Nat → Nat
  | 0, _ => 0
  | n + 1, X => pcn 8 (X % 256) + 256 * byc n (X / 256)
theorem f21_low : ∀ n X, f2 n (f1 n X) % 16 ≤ 4
  | 0, X => by unfold f2 f1 mb8; simp
  | n + 1, X => by
    obtain ⟨_, h2, h3, h4, h5⟩ := q3 (X % 256) (by omega)
    rw [f1_s, f2_s h4]; omega
theorem f321 : ∀ n X, f3 n (f2 n (f1 n X)) = byc n X
  | 0, X => by unfold f3 mb8 byc; simp
  | n + 1, X => by
    obtain ⟨h1, h2, h3, h4, h5⟩ := q3 (X % 256) (by omega)
    rw [f1_s, f2_s h4, f3_s h2 h3 (f21_low n _), f321 n]
    show _ = pcn 8 (X % 256) + 256 * byc n (X / 256)
    rw [h1]
theorem pcn_split : ∀ (j k m : Nat), pcn (j + k) m = pcn j (m % 2 ^ j) + pcn k (m / 2 ^ j)
  | 0, k, m => by simp [pcn]
  | j + 1, k, m => by
    rw [show j + 1 + k = (j + k) + 1 by omega]
    show m % 2 + pcn (j + k) (m / 2) = (m % 2 ^ (j + 1)) % 2 + pcn j ((m % 2 ^ (j + 1)) / 2) + pcn k (m / 2 ^ (j + 1))
    rw [pcn_split j k (m / 2)]
    have e1 : m % 2 ^ (j + 1) % 2 = m % 2 := Nat.mod_mod_of_dvd m ⟨2 ^ j, by rw [Nat.pow_succ, Nat.mul_comm]⟩
    have e2 : m % 2 ^ (j + 1) / 2 = m / 2 % 2 ^ j := by
      rw [Nat.pow_succ, Nat.mul_comm]
      exact Nat.mod_mul_right_div_self m 2 (2 ^ j)
    have e3 : m / 2 ^ (j + 1) = m / 2 / 2 ^ j := by rw [Nat.pow_succ, Nat.mul_comm, Nat.div_div_eq_div_mul]
    rw [e1, e2, e3]; omega
theorem pcn8 (k m : Nat) : pcn (8 + k) m = pcn 8 (m % 256) + pcn k (m / 256) := pcn_split 8 k m
theorem byc_sum (X : Nat) : ∃ b0 b1 b2 b3 b4 b5 b6 b7 : Nat, b0 ≤ 8 ∧ b1 ≤ 8 ∧ b2 ≤ 8 ∧ b3 ≤ 8 ∧ b4 ≤ 8 ∧ b5 ≤ 8 ∧ b6 ≤ 8 ∧ b7 ≤ 8 ∧ byc 8 X = b0 + 256 * (b1 + 256 * (b2 + 256 * (b3 + 256 * (b4 + 256 * (b5 + 256 * (b6 + 256 * b7)))))) ∧ pcn 64 X = b0 + (b1 + (b2 + (b3 + (b4 + (b5 + (b6 + b7)))))) := by
  refine ⟨pcn 8 (X % 256), pcn 8 (X / 256 % 256), pcn 8 (X / 256 / 256 % 256), pcn 8 (X / 256 / 256 / 256 % 256), pcn 8 (X / 256 / 256 / 256 / 256 % 256), pcn 8 (X / 256 / 256 / 256 / 256 / 256 % 256), pcn 8 (X / 256 / 256 / 256 / 256 / 256 / 256 % 256), pcn 8 (X / 256 / 256 / 256 / 256 / 256 / 256 / 256 % 256), pcn_le _ _, pcn_le _ _, pcn_le _ _, pcn_le _ _, pcn_le _ _, pcn_le _ _, pcn_le _ _, pcn_le _ _, ?_, ?_⟩
  · rfl
  · have h1 : pcn 64 X = pcn 8 (X % 256) + pcn 56 (X / 256) := pcn8 56 X
    have h2 : pcn 56 (X / 256) = _ + pcn 48 (X / 256 / 256) := pcn8 48 _
    have h3 : pcn 48 (X / 256 / 256) = _ + pcn 40 _ := pcn8 40 _
    have h4 : pcn 40 (X / 256 / 256 / 256) = _ + pcn 32 _ := pcn8 32 _
    have h5 : pcn 32 (X / 256 / 256 / 256 / 256) = _ + pcn 24 _ := pcn8 24 _
    have h6 : pcn 24 (X / 256 / 256 / 256 / 256 / 256) = _ + pcn 16 _ := pcn8 16 _
    have h7 : pcn 16 (X / 256 / 256 / 256 / 256 / 256 / 256) = _ + pcn 8 _ := pcn8 8 _
    have h8 : pcn 8 (X / 256 / 256 / 256 / 256 / 256 / 256 / 256) = pcn 8 (X / 256 / 256 / 256 / 256 / 256 / 256 / 256 % 256) + pcn 0 _ := pcn8 0 _
    rw [h1, h2, h3, h4, h5, h6, h7, h8]
    rfl
theorem U_mk1 : U 6148914691236517205 = mb8 85 8 := by decide +kernel
theorem U_mk2 : U 3689348814741910323 = mb8 51 8 := by decide +kernel
theorem U_mk3 : U 1085102592571150095 = mb8 15 8 := by decide +kernel
theorem low7 (v : Int64) : v.toInt32 &&& 127 = nI (U v % 128) := by
  rw [pk_and v.toInt32 (m := 127) 7 (by decide)]
  congr 1
  have : v.toInt32.toBitVec.toNat = U v % 2 ^ 32 := by
    unfold U
    rw [Int64.toBitVec_toInt32, BitVec.signExtend_eq_setWidth_of_le _ (by decide), BitVec.toNat_setWidth]
  rw [this]; omega
theorem dv {a r : Nat} (h : a < 256) : (a + 256 * r) / 256 = r := by omega
theorem fin8 {b0 b1 b2 b3 b4 b5 b6 b7 R1 R2 R3 R4 R5 R6 R7 T V W : Nat} (h0 : b0 ≤ 8) (h1 : b1 ≤ 8) (h2 : b2 ≤ 8) (h3 : b3 ≤ 8) (h4 : b4 ≤ 8) (h5 : b5 ≤ 8) (h6 : b6 ≤ 8) (h7 : b7 ≤ 8)
    (r7 : R7 = b7) (r6 : R6 = b6 + 256 * R7) (r5 : R5 = b5 + 256 * R6) (r4 : R4 = b4 + 256 * R5) (r3 : R3 = b3 + 256 * R4) (r2 : R2 = b2 + 256 * R3) (r1 : R1 = b1 + 256 * R2) (hT : T = b0 + 256 * R1) (hV : V = T + T / 256) (hW : W = V + V / 65536) :
    (W + W / 4294967296) % 128 = b0 + (b1 + (b2 + (b3 + (b4 + (b5 + (b6 + b7)))))) := by
  have t1 : T / 256 = R1 := by rw [hT]; exact dv (by omega)
  have v1 : V = (b0 + b1) + 256 * (R1 + R2) := by rw [hV, t1, hT]; clear hV t1; rw [Nat.mul_add]; clear hW; omega
  have v2 : V / 65536 = R2 + R3 := by
    rw [show 65536 = 256 * 256 by decide, ← Nat.div_div_eq_div_mul, v1, dv (by omega), r1, r2]
    rw [show b1 + 256 * (b2 + 256 * R3) + (b2 + 256 * R3) = (b1 + b2) + 256 * ((b2 + 256 * R3) + R3) by omega]
    exact dv (by omega)
  have w1 : W = (b0 + b1 + b2 + b3) + 256 * (R1 + R2 + R3 + R4) := by
    rw [hW, v2, v1]; clear hW v2 v1 hV t1 hT r1; omega
  have w2 : W / 4294967296 = R4 + R5 + R6 + R7 := by
    rw [show 4294967296 = 256 * 256 * 256 * 256 by decide, ← Nat.div_div_eq_div_mul, ← Nat.div_div_eq_div_mul, ← Nat.div_div_eq_div_mul, w1, dv (by omega)]
    rw [show R1 + R2 + R3 + R4 = (b1 + b2 + b3 + b4) + 256 * (R2 + R3 + R4 + R5) by clear w1 hW v2 v1 hV t1 hT; omega, dv (by omega)]
    rw [show R2 + R3 + R4 + R5 = (b2 + b3 + b4 + b5) + 256 * (R3 + R4 + R5 + R6) by clear w1 hW v2 v1 hV t1 hT; omega, dv (by omega)]
    rw [show R3 + R4 + R5 + R6 = (b3 + b4 + b5 + b6) + 256 * (R4 + R5 + R6 + R7) by clear w1 hW v2 v1 hV t1 hT; omega, dv (by omega)]
  rw [w2, w1]
  clear w2 w1 hW v2 v1 hV t1 hT r1 r2 r3
  omega
theorem T_lt {b0 b1 b2 b3 b4 b5 b6 b7 : Nat} (h0 : b0 ≤ 8) (h1 : b1 ≤ 8) (h2 : b2 ≤ 8) (h3 : b3 ≤ 8) (h4 : b4 ≤ 8) (h5 : b5 ≤ 8) (h6 : b6 ≤ 8) (h7 : b7 ≤ 8) :
    b0 + 256 * (b1 + 256 * (b2 + 256 * (b3 + 256 * (b4 + 256 * (b5 + 256 * (b6 + 256 * b7)))))) < 2 ^ 60 := by omega
theorem lv {T V W : Nat} (h : T < 2 ^ 60) (hV : V = T + T / 256) (hW : W = V + V / 65536) : T + T / 256 < 2 ^ 64 ∧ V + V / 65536 < 2 ^ 64 ∧ W + W / 4294967296 < 2 ^ 64 := by
  have a : V < 2 ^ 61 := by rw [hV]; have : T / 256 ≤ T := Nat.div_le_self _ _; omega
  have b : W < 2 ^ 62 := by rw [hW]; have : V / 65536 ≤ V := Nat.div_le_self _ _; omega
  have c : W / 4294967296 ≤ W := Nat.div_le_self _ _
  refine ⟨by omega, by omega, by omega⟩
theorem s_bitCount {x : Int64} {k : Int32 → Prop} (hk : k (nI (pc x))) : p_K_bitCount x k := by
  unfold p_K_bitCount
  intro v1 e1 v2 e2 v3 e3 v4 e4
  have hX := U_lt x
  have a1 : U v1 = f1 8 (U x) := by
    rw [e1]
    have h : U (J_lushr x 1 &&& 6148914691236517205) = (U x / 2 &&& mb8 85 8) := by rw [U_and, U_shr1, U_mk1]
    rw [U_sub (by rw [h]; exact Nat.le_trans Nat.and_le_left (by omega)), h]; rfl
  have hv1 : f1 8 (U x) < 2 ^ 64 := by rw [← a1]; exact U_lt v1
  have a2 : U v2 = f2 8 (f1 8 (U x)) := by
    rw [e2]
    have h1 : U (v1 &&& 3689348814741910323) = (f1 8 (U x) &&& mb8 51 8) := by rw [U_and, U_mk2, a1]
    have h2 : U (J_lushr v1 2 &&& 3689348814741910323) = (f1 8 (U x) / 4 &&& mb8 51 8) := by rw [U_and, U_shr2, U_mk2, a1]
    have h3 : (f1 8 (U x) &&& mb8 51 8) ≤ mb8 51 8 := Nat.and_le_right
    have h4 : (f1 8 (U x) / 4 &&& mb8 51 8) ≤ mb8 51 8 := Nat.and_le_right
    have h5 : mb8 51 8 + mb8 51 8 < 2 ^ 64 := by decide
    rw [U_add (by rw [h1, h2]; omega), h1, h2]; rfl
  have hv2 : f2 8 (f1 8 (U x)) ≤ mb8 51 8 + mb8 51 8 := by
    have h3 : (f1 8 (U x) &&& mb8 51 8) ≤ mb8 51 8 := Nat.and_le_right
    have h4 : (f1 8 (U x) / 4 &&& mb8 51 8) ≤ mb8 51 8 := Nat.and_le_right
    unfold f2; omega
  have a3 : U v3 = byc 8 (U x) := by
    rw [e3, U_and, U_mk3]
    have h5 : mb8 51 8 + mb8 51 8 + (mb8 51 8 + mb8 51 8) / 16 < 2 ^ 64 := by decide
    have h : U (v2 + J_lushr v2 4) = f2 8 (f1 8 (U x)) + f2 8 (f1 8 (U x)) / 16 := by
      rw [U_add (by rw [U_shr4, a2]; omega), U_shr4, a2]
    rw [h]
    exact f321 8 (U x)
  obtain ⟨b0, b1, b2, b3, b4, b5, b6, b7, c0, c1, c2, c3, c4, c5, c6, c7, hb, hp⟩ := byc_sum (U x)
  have hT := T_lt c0 c1 c2 c3 c4 c5 c6 c7
  rw [hb] at a3
  rw [← a3] at hT
  obtain ⟨l1, l2, l3⟩ := lv hT rfl rfl
  have s1 : U (v3 + J_lushr v3 8) = U v3 + U v3 / 256 := by
    have h : U (J_lushr v3 8) = U v3 / 256 := U_shr8 v3
    rw [U_add (by rw [h]; exact l1), h]
  have s2 : U v4 = (U v3 + U v3 / 256) + (U v3 + U v3 / 256) / 65536 := by
    have h : U (J_lushr (v3 + J_lushr v3 8) 16) = (U v3 + U v3 / 256) / 65536 := by rw [U_shr16, s1]
    rw [e4, U_add (by rw [h, s1]; exact l2), h, s1]
  have s3 : U (v4 + J_lushr v4 32) = U v4 + U v4 / 4294967296 := by
    have h : U (J_lushr v4 32) = U v4 / 4294967296 := U_shr32 v4
    rw [U_add (by rw [h, s2]; exact l3), h]
  have e := fin8 c0 c1 c2 c3 c4 c5 c6 c7 rfl rfl rfl rfl rfl rfl rfl a3 rfl s2
  rw [low7, s3, e]
  have : pc x = b0 + (b1 + (b2 + (b3 + (b4 + (b5 + (b6 + b7)))))) := hp
  rw [← this]
  exact hk

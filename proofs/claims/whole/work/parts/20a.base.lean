/-! PURE: numbers -/
theorem i_lit (n : Nat) : (OfNat.ofNat n : Int32) = nI n := rfl
theorem i_m1 : (-1 : Int32).toInt = -1 := by decide
theorem i_toInt_le {x y : Int32} : x ≤ y ↔ x.toInt ≤ y.toInt := Int32.le_iff_toInt_le
theorem i_toInt_lt {x y : Int32} : x < y ↔ x.toInt < y.toInt := Int32.lt_iff_toInt_lt
theorem i_toInt_eq {x y : Int32} : x = y ↔ x.toInt = y.toInt := Int32.toInt_inj.symm
theorem i_rng (x : Int32) : -2147483648 ≤ x.toInt ∧ x.toInt < 2147483648 := by
  have h1 := Int32.le_toInt x
  have h2 := Int32.toInt_lt x
  constructor
  · simpa using h1
  · simpa using h2
/-- a number that isn't below 0 and not above n is nI of one -/
theorem i_ofN {x : Int32} (h : 0 ≤ x.toInt) : x = nI x.toInt.toNat := by
  have := i_rng x
  rw [i_toInt_eq, nI_toInt (by omega)]
  omega
theorem i_clampN {n : Nat} (h : n < 2 ^ 31) : (nI n).toNatClampNeg = n := nI_clamp h
theorem in_iff {x : Int32} {n : Nat} : vp_in x n ↔ 0 ≤ x.toInt ∧ x.toInt < n := vp_in_iff
theorem upd_s {f : Nat → Int32} {k : Nat} {x : Int32} : upd f k x k = x := by unfold upd; rw [if_pos rfl]
theorem upd_n {f : Nat → Int32} {k j : Nat} {x : Int32} (h : j ≠ k) : upd f k x j = f j := by unfold upd; rw [if_neg h]
theorem updL_s {f : Nat → Int64} {k : Nat} {x : Int64} : vp_updL f k x k = x := by unfold vp_updL; rw [if_pos rfl]
theorem updL_n {f : Nat → Int64} {k j : Nat} {x : Int64} (h : j ≠ k) : vp_updL f k x j = f j := by unfold vp_updL; rw [if_neg h]
/-! bytes -/
def isB (x : Int32) : Prop := -128 ≤ x.toInt ∧ x.toInt < 128
def byU (x s : Int32) : Int32 := vp_nar .byte ((J_iushr x s).toInt8.toInt32)
def byS (x s : Int32) : Int32 := vp_nar .byte ((x >>> (s &&& 31)).toInt8.toInt32)
theorem se8 (v : BitVec 32) (k : Nat) (hk : k ≤ 24) : BitVec.signExtend 8 (v >>> k) = BitVec.signExtend 8 (v.sshiftRight k) := by
  apply BitVec.eq_of_getLsbD_eq
  intro i hi
  have h1 : i < 32 := by omega
  have h2 : k + i < 32 := by omega
  have h3 : ¬ 32 ≤ i := by omega
  rw [BitVec.getLsbD_signExtend, BitVec.getLsbD_signExtend, if_pos h1, if_pos h1, BitVec.getLsbD_ushiftRight, BitVec.getLsbD_sshiftRight]
  simp [h2, h3]
theorem by_24 (x : Int32) : (J_iushr x 24).toInt8 = (x >>> ((24 : Int32) &&& 31)).toInt8 := by
  have e : ((24 : Int32) &&& 31) = 24 := by decide
  rw [e]
  apply Int8.toBitVec_inj.mp
  simpa [J_iushr] using se8 x.toBitVec 24 (by decide)
theorem by_16 (x : Int32) : (J_iushr x 16).toInt8 = (x >>> ((16 : Int32) &&& 31)).toInt8 := by
  have e : ((16 : Int32) &&& 31) = 16 := by decide
  rw [e]
  apply Int8.toBitVec_inj.mp
  simpa [J_iushr] using se8 x.toBitVec 16 (by decide)
theorem by_8 (x : Int32) : (J_iushr x 8).toInt8 = (x >>> ((8 : Int32) &&& 31)).toInt8 := by
  have e : ((8 : Int32) &&& 31) = 8 := by decide
  rw [e]
  apply Int8.toBitVec_inj.mp
  simpa [J_iushr] using se8 x.toBitVec 8 (by decide)
theorem by_0 (x : Int32) : (J_iushr x 0).toInt8 = (x >>> ((0 : Int32) &&& 31)).toInt8 := by
  have e : ((0 : Int32) &&& 31) = 0 := by decide
  rw [e]
  apply Int8.toBitVec_inj.mp
  simpa [J_iushr] using se8 x.toBitVec 0 (by decide)
theorem by_same {x s : Int32} (h : s = 24 ∨ s = 16 ∨ s = 8 ∨ s = 0) : byU x s = byS x s := by
  unfold byU byS
  rcases h with rfl | rfl | rfl | rfl
  · rw [by_24]
  · rw [by_16]
  · rw [by_8]
  · rw [by_0]
theorem by_isB (x s : Int32) : isB (byS x s) := by
  unfold byS isB
  rw [pk_vb]
  generalize (x >>> (s &&& 31)) = z
  have h1 := Int8.le_toInt z.toInt8
  have h2 := Int8.toInt_lt z.toInt8
  simp at h1 h2
  constructor <;> simp <;> omega
/-! the tape -/
def RT (tl : Int32) (tb : Nat → Int32) (mt : Int32) (mb : Nat → Int32) : Prop := ∃ n : Nat, n ≤ 2000 ∧ tl = nI n ∧ mt = nI n ∧ ∀ j, j < n → tb j = mb j ∧ isB (mb j)
def w4U (f : Nat → Int32) (n : Nat) (x : Int32) : Nat → Int32 := upd (upd (upd (upd f n (byU x 24)) (n + 1) (byU x 16)) (n + 2) (byU x 8)) (n + 3) (byU x 0)
def w4S (f : Nat → Int32) (n : Nat) (x : Int32) : Nat → Int32 := upd (upd (upd (upd f n (byS x 24)) (n + 1) (byS x 16)) (n + 2) (byS x 8)) (n + 3) (byS x 0)
theorem ap1 {x1 x2 : Int32} {n m : Nat} {f : Nat → Int32} {k : Int32 → (Nat → Int32) → Prop} (hx : ¬ x2 < 0) (hn : n < 2000) (h : p_T_append_L3 x1 k m (x2 + (-8)) (nI (n + 1)) (upd f n (byU x1 x2))) : p_T_append_L3 x1 k (m + 1) x2 (nI n) f := by
  unfold p_T_append_L3
  refine ⟨fun q => absurd q hx, fun _ => ⟨fun q => absurd q (nI_pos (by omega)), fun _ => ⟨fun q => absurd q (nI_ge (a := n) (b := 2000) hn (by decide)), fun _ => ⟨vp_in_nI hn (by decide), ?_⟩⟩⟩⟩
  rw [nI_clamp (by omega), nI_1]
  exact h
theorem s_append {tl : Nat} {tb : Nat → Int32} {x : Int32} {k : Int32 → (Nat → Int32) → Prop} (hn : tl + 4 ≤ 2000) (h : k (nI (tl + 4)) (w4U tb tl x)) : p_T_append (nI tl) tb x k := by
  unfold p_T_append
  refine ⟨5, ap1 (by decide) (by omega) (ap1 (by decide) (by omega) (ap1 (by decide) (by omega) (ap1 (by decide) (by omega) ?_)))⟩
  unfold p_T_append_L3
  exact ⟨fun _ => h, fun q => absurd (by decide) q⟩
theorem mf1 {x1 x2 : Int32} {n m : Nat} {f : Nat → Int32} {k : Int32 → (Nat → Int32) → Prop} (hx : ¬ x2 < 0) (hn : n < 2000) (h : p_M_feed_L73 x1 k m (x2 + (-8)) (nI (n + 1)) (upd f n (byS x1 x2))) : p_M_feed_L73 x1 k (m + 1) x2 (nI n) f := by
  unfold p_M_feed_L73
  refine ⟨fun q => absurd q hx, fun _ => ⟨vp_in_nI hn (by decide), ?_⟩⟩
  rw [nI_clamp (by omega), nI_1]
  exact h
theorem s_mf {t : Nat} {f : Nat → Int32} {x x1 x2 x3 x4 x5 x6 : Int32} {k : Int32 → Int32 → (Nat → Int32) → Prop} (hn : t + 4 ≤ 2000) (h : k (x6 + 1) (nI (t + 4)) (w4S f t x)) : p_M_feed_J67 k x1 x2 x3 x4 x5 x6 x (nI t) f := by
  unfold p_M_feed_J67
  refine ⟨5, mf1 (by decide) (by omega) (mf1 (by decide) (by omega) (mf1 (by decide) (by omega) (mf1 (by decide) (by omega) ?_)))⟩
  unfold p_M_feed_L73
  exact ⟨fun _ => h, fun q => absurd (by decide) q⟩
theorem w4_same {f g : Nat → Int32} {n : Nat} {x : Int32} (h : ∀ j, j < n → f j = g j ∧ isB (g j)) : ∀ j, j < n + 4 → w4U f n x j = w4S g n x j ∧ isB (w4S g n x j) := by
  intro j hj
  simp only [w4U, w4S, upd]
  by_cases h3 : j = n + 3
  · rw [if_pos h3, if_pos h3]; exact ⟨by_same (by decide), by_isB _ _⟩
  rw [if_neg h3, if_neg h3]
  by_cases h2 : j = n + 2
  · rw [if_pos h2, if_pos h2]; exact ⟨by_same (by decide), by_isB _ _⟩
  rw [if_neg h2, if_neg h2]
  by_cases h1 : j = n + 1
  · rw [if_pos h1, if_pos h1]; exact ⟨by_same (by decide), by_isB _ _⟩
  rw [if_neg h1, if_neg h1]
  by_cases h0 : j = n
  · rw [if_pos h0, if_pos h0]; exact ⟨by_same (by decide), by_isB _ _⟩
  rw [if_neg h0, if_neg h0]
  exact h j (by omega)
theorem s_feed {tl mt a b c d e : Int32} {tb mb : Nat → Int32} {K : Int32 → Int32 → (Nat → Int32) → Int32 → Int32 → (Nat → Int32) → Prop} (hr : RT tl tb mt mb)
    (hk : ∀ r tl tb mt mb, RT tl tb mt mb → K r tl tb r mt mb) : p_B_feed tl tb a b c d e (fun r t f => p_M_feed mt mb a b c d e (fun r' t' f' => K r t f r' t' f')) := by
  obtain ⟨n, hn, rfl, rfl, hj⟩ := hr
  unfold p_B_feed p_M_feed
  have e1 : nI n + 20 = nI (n + 20) := nI_add n 20
  refine ⟨fun q => ?_, fun q => ?_⟩
  · have hq : n ≤ 1980 := (nI_leI (b := 1980) (by omega) (by decide)).mp q
    refine s_append (by omega) (s_append (by omega) (s_append (by omega) (s_append (by omega) (s_append (by omega) ?_))))
    refine ⟨fun _ => ⟨6, ?_⟩, fun q2 => absurd (by rw [e1]; exact nI_le (a := n + 20) (b := 2000) (by omega) (by decide)) q2⟩
    unfold p_M_feed_L19
    refine ⟨fun q => absurd q (by decide), fun _ => ⟨fun q => absurd rfl q, fun _ => s_mf (by omega) ?_⟩⟩
    unfold p_M_feed_L19
    refine ⟨fun q => absurd q (by decide), fun _ => ⟨fun _ => ⟨fun q => absurd (by decide) q, fun _ => s_mf (by omega) ?_⟩, fun q => absurd q (by decide)⟩⟩
    unfold p_M_feed_L19
    refine ⟨fun q => absurd q (by decide), fun _ => ⟨fun _ => ⟨fun _ => ⟨fun q => absurd (by decide) q, fun _ => s_mf (by omega) ?_⟩, fun q => absurd q (by decide)⟩, fun q => absurd q (by decide)⟩⟩
    unfold p_M_feed_L19
    refine ⟨fun q => absurd q (by decide), fun _ => ⟨fun _ => ⟨fun _ => ⟨fun _ => ⟨fun q => absurd (by decide) q, fun _ => s_mf (by omega) ?_⟩, fun q => absurd q (by decide)⟩, fun q => absurd q (by decide)⟩, fun q => absurd q (by decide)⟩⟩
    unfold p_M_feed_L19
    refine ⟨fun q => absurd q (by decide), fun _ => ⟨fun _ => ⟨fun _ => ⟨fun _ => ⟨fun _ => s_mf (by omega) ?_, fun q => absurd q (by decide)⟩, fun q => absurd q (by decide)⟩, fun q => absurd q (by decide)⟩, fun q => absurd q (by decide)⟩⟩
    unfold p_M_feed_L19
    refine ⟨fun _ => hk _ _ _ _ _ ⟨n + 4 + 4 + 4 + 4 + 4, by omega, rfl, rfl, w4_same (w4_same (w4_same (w4_same (w4_same hj))))⟩, fun q => absurd (by decide) q⟩
  · have hq : ¬ n ≤ 1980 := fun h => q (nI_le (a := n) (b := 1980) h (by decide))
    exact ⟨fun q2 => absurd ((nI_leI (a := n + 20) (b := 2000) (by omega) (by decide)).mp (by rw [e1] at q2; exact q2)) (by omega), fun _ => hk _ _ _ _ _ ⟨n, hn, rfl, rfl, hj⟩⟩
theorem s_end {tl mt a : Int32} {tb mb : Nat → Int32} {K : Int32 → Int32 → Int32 → Int32 → Prop} (hr : RT tl tb mt mb)
    (hk : ∀ r tl mt, RT tl tb mt mb → K r tl r mt) : p_B_end_ tl a (fun r t => p_M_end_ mt a (fun r' t' => K r t r' t')) := by
  obtain ⟨n, hn, rfl, rfl, hj⟩ := hr
  unfold p_B_end_ p_M_end_
  refine ⟨fun q => ⟨fun _ => hk _ _ _ ⟨n, hn, rfl, rfl, hj⟩, fun q2 => absurd q q2⟩, fun q => ⟨fun q1 => ⟨fun q2 => absurd q2 q, fun _ => ⟨fun _ => ?_, fun q2 => absurd q1 q2⟩⟩, fun q1 => ⟨fun q2 => absurd q2 q, fun _ => ⟨fun q2 => absurd q2 q1, fun _ => hk _ _ _ ⟨n, hn, rfl, rfl, hj⟩⟩⟩⟩⟩
  have ha : 0 ≤ a.toInt := by
    have : ¬ a.toInt < (0 : Int32).toInt := fun h => q (i_toInt_lt.mpr h)
    have e0 : (0 : Int32).toInt = 0 := by decide
    omega
  have hle : a.toInt ≤ n := by rw [← nI_toInt (n := n) (by omega)]; exact i_toInt_le.mp q1
  exact hk _ _ _ ⟨a.toInt.toNat, by omega, i_ofN ha, i_ofN ha, fun j hj2 => hj j (by omega)⟩
theorem s_fault {rk rp mk mp a : Int32} {K : Int32 → Int32 → Prop} (h1 : rk = mk) (h2 : rp = mp) (hk : ∀ r, K r r) : p_B_fault rk rp a (fun r => p_M_fault mk mp a (fun r' => K r r')) := by
  subst h1; subst h2
  unfold p_B_fault p_M_fault
  exact ⟨fun q => ⟨fun q2 => absurd q q2, fun _ => hk _⟩, fun q => ⟨fun _ => ⟨fun q2 => absurd q q2, fun _ => hk _⟩, fun q2 => absurd (q2.symm.trans q) (by decide)⟩, fun q1 q2 => ⟨fun _ => ⟨fun _ => hk _, fun q => absurd q q2⟩, fun q => absurd q q1⟩⟩

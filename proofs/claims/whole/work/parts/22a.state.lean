/-! PURE: the clauses as one state; adding one; resolvents -/
abbrev CS : Type := Nat × (Nat → Int32) × (Nat → Int32) × (Nat → Int32) × (Nat → Int32) × (Nat → Int32) × (Nat → Int32) × (Nat → Int32)
abbrev cB (s : CS) : Nat → Int32 := s.2.1
abbrev cL (s : CS) : Nat → Int32 := s.2.2.1
abbrev cR (s : CS) : Nat → Int32 := s.2.2.2.1
abbrev cV (s : CS) : Nat → Int32 := s.2.2.2.2.1
abbrev cP (s : CS) : Nat → Int32 := s.2.2.2.2.2.1
abbrev cN (s : CS) : Nat → Int32 := s.2.2.2.2.2.2.1
abbrev cX (s : CS) : Nat → Int32 := s.2.2.2.2.2.2.2
def addS (s : CS) (p q b l r v : Int32) : CS := (s.1 + 1, upd (cB s) (s.1 + 1) b, upd (cL s) (s.1 + 1) l, upd (cR s) (s.1 + 1) r, upd (cV s) (s.1 + 1) v, upd (cP s) (s.1 + 1) p, upd (cN s) (s.1 + 1) q, upd (cX s) (s.1 + 1) 1)
/-- two states that are the same at k -/
def same (s t : CS) (k : Nat) : Prop := cB s k = cB t k ∧ cL s k = cL t k ∧ cR s k = cR t k ∧ cV s k = cV t k ∧ cP s k = cP t k ∧ cN s k = cN t k ∧ cX s k = cX t k
def EQs (s t : CS) : Prop := s.1 = t.1 ∧ ∀ k, 1 ≤ k → k ≤ s.1 → same s t k
theorem same.rf {s : CS} {k : Nat} : same s s k := ⟨rfl, rfl, rfl, rfl, rfl, rfl, rfl⟩
theorem same.tr {s t u : CS} {k : Nat} (h : same s t k) (g : same t u k) : same s u k := ⟨h.1.trans g.1, h.2.1.trans g.2.1, h.2.2.1.trans g.2.2.1, h.2.2.2.1.trans g.2.2.2.1, h.2.2.2.2.1.trans g.2.2.2.2.1, h.2.2.2.2.2.1.trans g.2.2.2.2.2.1, h.2.2.2.2.2.2.trans g.2.2.2.2.2.2⟩
theorem same.sy {s t : CS} {k : Nat} (h : same s t k) : same t s k := ⟨h.1.symm, h.2.1.symm, h.2.2.1.symm, h.2.2.2.1.symm, h.2.2.2.2.1.symm, h.2.2.2.2.2.1.symm, h.2.2.2.2.2.2.symm⟩
theorem add_old {s : CS} {p q b l r v : Int32} {k : Nat} (h : k ≤ s.1) : same (addS s p q b l r v) s k := by
  unfold addS same
  have : k ≠ s.1 + 1 := by omega
  exact ⟨upd_n this, upd_n this, upd_n this, upd_n this, upd_n this, upd_n this, upd_n this⟩
theorem add_new {s : CS} {p q b l r v : Int32} : cB (addS s p q b l r v) (s.1 + 1) = b ∧ cL (addS s p q b l r v) (s.1 + 1) = l ∧ cR (addS s p q b l r v) (s.1 + 1) = r ∧ cV (addS s p q b l r v) (s.1 + 1) = v ∧ cP (addS s p q b l r v) (s.1 + 1) = p ∧ cN (addS s p q b l r v) (s.1 + 1) = q ∧ cX (addS s p q b l r v) (s.1 + 1) = 1 :=
  ⟨upd_s, upd_s, upd_s, upd_s, upd_s, upd_s, upd_s⟩
theorem add_eq {s t : CS} {p q b l r v : Int32} (h : EQs s t) : EQs (addS s p q b l r v) (addS t p q b l r v) := by
  refine ⟨by show s.1 + 1 = t.1 + 1; rw [h.1], fun k h1 h2 => ?_⟩
  have h2 : k ≤ s.1 + 1 := h2
  by_cases e : k = s.1 + 1
  · subst e
    have a := add_new (s := s) (p := p) (q := q) (b := b) (l := l) (r := r) (v := v)
    have c := add_new (s := t) (p := p) (q := q) (b := b) (l := l) (r := r) (v := v)
    rw [← h.1] at c
    exact ⟨a.1.trans c.1.symm, a.2.1.trans c.2.1.symm, a.2.2.1.trans c.2.2.1.symm, a.2.2.2.1.trans c.2.2.2.1.symm, a.2.2.2.2.1.trans c.2.2.2.2.1.symm, a.2.2.2.2.2.1.trans c.2.2.2.2.2.1.symm, a.2.2.2.2.2.2.trans c.2.2.2.2.2.2.symm⟩
  · exact ((add_old (by omega)).tr (h.2 k h1 (by omega))).tr (add_old (by rw [← h.1]; omega)).sy
/-- all clauses of a state are as they must be -/
def GS (s : CS) : Prop := s.1 ≤ 200 ∧ ∀ k, 1 ≤ k → k ≤ s.1 → OKc (cB s) (cL s) (cR s) (cV s) k ∧ cP s k &&& cN s k = 0
theorem GS.add {s : CS} {p q b l r v : Int32} (h : GS s) (hm : s.1 < 200) (ho : OKc (fun _ => b) (fun _ => l) (fun _ => r) (fun _ => v) (s.1 + 1)) (hd : p &&& q = 0) : GS (addS s p q b l r v) := by
  refine ⟨by show s.1 + 1 ≤ 200; omega, fun k h1 h2 => ?_⟩
  have h2 : k ≤ s.1 + 1 := h2
  by_cases e : k = s.1 + 1
  · subst e
    obtain ⟨a1, a2, a3, a4, a5, a6, -⟩ := add_new (s := s) (p := p) (q := q) (b := b) (l := l) (r := r) (v := v)
    exact ⟨ho.cong a1 a2 a3 a4, by rw [a5, a6]; exact hd⟩
  · obtain ⟨a1, a2, a3, a4, a5, a6, -⟩ := add_old (s := s) (p := p) (q := q) (b := b) (l := l) (r := r) (v := v) (k := k) (by omega)
    have g := h.2 k h1 (by omega)
    exact ⟨g.1.cong a1 a2 a3 a4, by rw [a5, a6]; exact g.2⟩
/-! bits -/
def bv (v : Nat) : Int32 := (1 : Int32) <<< ((nI v - 1) &&& 31)
theorem bv_pow {v : Nat} (h1 : 1 ≤ v) (h2 : v ≤ 10) : (bv v).toBitVec = BitVec.twoPow 32 (v - 1) := by
  have : v = 1 ∨ v = 2 ∨ v = 3 ∨ v = 4 ∨ v = 5 ∨ v = 6 ∨ v = 7 ∨ v = 8 ∨ v = 9 ∨ v = 10 := by omega
  rcases this with rfl | rfl | rfl | rfl | rfl | rfl | rfl | rfl | rfl | rfl <;> decide
/-- variable v is among these -/
def bt (x : Int32) (v : Nat) : Bool := x.toBitVec.getLsbD (v - 1)
theorem bt_and (x y : Int32) (v : Nat) : bt (x &&& y) v = (bt x v && bt y v) := by unfold bt; rw [Int32.toBitVec_and, BitVec.getLsbD_and]
theorem bt_or (x y : Int32) (v : Nat) : bt (x ||| y) v = (bt x v || bt y v) := by unfold bt; rw [Int32.toBitVec_or, BitVec.getLsbD_or]
theorem bv_and {x : Int32} {v : Nat} (h1 : 1 ≤ v) (h2 : v ≤ 10) : x &&& bv v = 0 ↔ bt x v = false := by
  unfold bt
  rw [← Int32.toBitVec_inj, Int32.toBitVec_and, bv_pow h1 h2, BitVec.and_twoPow]
  cases h : x.toBitVec.getLsbD (v - 1)
  · simp
  · simp only [if_true]
    constructor
    · intro q
      have := congrArg (fun z : BitVec 32 => z.getLsbD (v - 1)) q
      simp [BitVec.getLsbD_twoPow] at this
      omega
    · intro q; cases q
theorem bv_and' {x : Int32} {v : Nat} (h1 : 1 ≤ v) (h2 : v ≤ 10) : ¬ x &&& bv v = 0 ↔ bt x v = true := by
  rw [bv_and h1 h2]; cases bt x v <;> simp
theorem bv_not {x : Int32} {v : Nat} (h1 : 1 ≤ v) (h2 : v ≤ 10) (h : bt x v = false) : x &&& (bv v ^^^ (-1)) = x := by
  unfold bt at h
  apply Int32.toBitVec_inj.mp
  rw [Int32.toBitVec_and, Int32.toBitVec_xor, bv_pow h1 h2]
  apply BitVec.eq_of_getLsbD_eq
  intro i hi
  rw [BitVec.getLsbD_and, BitVec.getLsbD_xor, BitVec.getLsbD_twoPow]
  have e1 : ((-1 : Int32).toBitVec).getLsbD i = true := by
    have : (-1 : Int32).toBitVec = BitVec.allOnes 32 := by decide
    rw [this, BitVec.getLsbD_allOnes]; simp [hi]
  rw [e1]
  by_cases e : v - 1 = i
  · subst e; rw [h]; rfl
  · simp [hi, e]
theorem bt_disj {x y : Int32} (v : Nat) (h : x &&& y = 0) (hy : bt y v = true) : bt x v = false := by
  have := bt_and x y v
  rw [h, hy, Bool.and_true] at this
  rw [← this]; unfold bt; simp
theorem and_or_d (x y z : Int32) : (x ||| y) &&& z = (x &&& z) ||| (y &&& z) := by
  apply Int32.toBitVec_inj.mp
  rw [Int32.toBitVec_and, Int32.toBitVec_or, Int32.toBitVec_or, Int32.toBitVec_and, Int32.toBitVec_and]
  apply BitVec.eq_of_getLsbD_eq
  intro i hi
  simp only [BitVec.getLsbD_and, BitVec.getLsbD_or]
  cases x.toBitVec.getLsbD i <;> cases y.toBitVec.getLsbD i <;> cases z.toBitVec.getLsbD i <;> rfl
/-- the resolvent's literals -/
def rp (s : CS) (i j v : Nat) : Int32 := (cP s i ||| cP s j) &&& (bv v ^^^ (-1))
def rq (s : CS) (i j v : Nat) : Int32 := (cN s i ||| cN s j) &&& (bv v ^^^ (-1))
theorem rp_m {s : CS} {i j v : Nat} (h1 : 1 ≤ v) (h2 : v ≤ 10) (hj : cP s j &&& cN s j = 0) (hn : bt (cN s j) v = true) : (cP s i &&& (bv v ^^^ (-1))) ||| cP s j = rp s i j v := by
  unfold rp
  rw [and_or_d, bv_not h1 h2 (bt_disj v hj hn)]
theorem and_comm32 (x y : Int32) : x &&& y = y &&& x := by
  apply Int32.toBitVec_inj.mp
  rw [Int32.toBitVec_and, Int32.toBitVec_and, BitVec.and_comm]
theorem rq_m {s : CS} {i j v : Nat} (h1 : 1 ≤ v) (h2 : v ≤ 10) (hi : cP s i &&& cN s i = 0) (hp : bt (cP s i) v = true) : cN s i ||| (cN s j &&& (bv v ^^^ (-1))) = rq s i j v := by
  unfold rq
  rw [and_or_d, bv_not (x := cN s i) h1 h2 (bt_disj v (by rw [and_comm32]; exact hi) hp)]
/-! the class's rows for a draft -/
section DR
variable {s : CS}
theorem s_hasRoom {k : Int32 → Prop} {m : Nat} (hm : m ≤ 200) (h1 : m < 200 → k 1) (h0 : m = 200 → k 0) : p_C_hasRoom (nI m) k := by
  unfold p_C_hasRoom
  refine ⟨fun q => h0 ?_, fun q => h1 ?_⟩
  · have : 200 ≤ m := (nI_leI (a := 200) (by omega) (by omega)).mp q
    omega
  · have : ¬ 200 ≤ m := fun h => q (n_le (a := 200) h)
    omega
theorem s_isDrafted {m i : Nat} {k : Int32 → Prop} (hm : m ≤ 200) (h1 : 1 ≤ i) (h2 : i ≤ m) (hk : k 1) : p_C_isDrafted (nI m) (nI i) k := by
  unfold p_C_isDrafted
  exact cf (n_nlt (b := 1) h1) (cf (n_nlt h2) (cf (n_nlt (a := 200) (b := i) (by omega)) hk))
theorem s_posRest {i j v : Nat} {k : Int32 → Prop} (hi : i ≤ 200) (hj : j ≤ 200) (hk : k (rp s i j v)) : p_C_positiveRest (cP s) (nI i) (nI j) (nI v) k := by
  unfold p_C_positiveRest p_B_bitOf
  refine ⟨n_in (by omega), n_in (by omega), ?_⟩
  rw [n_cl, n_cl]; exact hk
theorem s_negRest {i j v : Nat} {k : Int32 → Prop} (hi : i ≤ 200) (hj : j ≤ 200) (hk : k (rq s i j v)) : p_C_negativeRest (cN s) (nI i) (nI j) (nI v) k := by
  unfold p_C_negativeRest p_B_bitOf
  refine ⟨n_in (by omega), n_in (by omega), ?_⟩
  rw [n_cl, n_cl]; exact hk
theorem s_resolves {i j v : Nat} {k : Int32 → Prop} (hv1 : 1 ≤ v) (hv2 : v ≤ 10) (hi : i ≤ 200) (hj : j ≤ 200) (h1 : bt (cP s i) v = true → bt (cN s j) v = true → k 1) (h0 : ¬ (bt (cP s i) v = true ∧ bt (cN s j) v = true) → k 0) : p_C_resolves (cP s) (cN s) (nI i) (nI j) (nI v) k := by
  unfold p_C_resolves p_B_bitOf
  refine ⟨n_in (by omega), ?_⟩
  rw [n_cl, n_cl]
  show ((cP s i &&& bv v = 0 → _) ∧ (¬ cP s i &&& bv v = 0 → _))
  refine ⟨fun q => h0 (fun h => ?_), fun q => ⟨n_in (by omega), ?_⟩⟩
  · rw [bv_and hv1 hv2] at q; rw [q] at h; exact absurd h.1 (by decide)
  · show ((cN s j &&& bv v = 0 → _) ∧ (¬ cN s j &&& bv v = 0 → _))
    refine ⟨fun q2 => h0 (fun h => ?_), fun q2 => h1 ((bv_and' hv1 hv2).mp q) ((bv_and' hv1 hv2).mp q2)⟩
    rw [bv_and hv1 hv2] at q2; rw [q2] at h; exact absurd h.2 (by decide)
theorem s_clashes {i j v : Nat} {k : Int32 → Prop} (hi : i ≤ 200) (hj : j ≤ 200) (h0 : rp s i j v &&& rq s i j v = 0 → k 0) (h1 : ¬ rp s i j v &&& rq s i j v = 0 → k 1) : p_C_clashes (cP s) (cN s) (nI i) (nI j) (nI v) k := by
  unfold p_C_clashes
  exact s_posRest hi hj (s_negRest hi hj ⟨h0, h1⟩)
theorem s_draftRes {i j v : Nat} {k : Int32 → (Nat → Int32) → (Nat → Int32) → (Nat → Int32) → (Nat → Int32) → (Nat → Int32) → (Nat → Int32) → (Nat → Int32) → Prop} (hm : s.1 < 200) (hi1 : 1 ≤ i) (hi : i ≤ s.1) (hj1 : 1 ≤ j) (hj : j ≤ s.1)
    (hk : ∀ t : CS, t = addS s (rp s i j v) (rq s i j v) 0 (nI i) (nI j) (nI v) → k (nI t.1) (cB t) (cL t) (cR t) (cV t) (cP t) (cN t) (cX t)) : p_C_draftResolvent (nI s.1) (cB s) (cL s) (cR s) (cV s) (cP s) (cN s) (cX s) (nI i) (nI j) (nI v) k := by
  unfold p_C_draftResolvent
  refine s_hasRoom (by omega) (fun _ => cf (by decide) (s_isDrafted (by omega) hi1 hi (cf (by decide) (s_isDrafted (by omega) hj1 hj (cf (by decide) (s_posRest (by omega) (by omega) (s_negRest (by omega) (by omega) ?_))))))) (fun h => absurd h (by omega))
  unfold p_C_draft
  have e1 : (nI (s.1 + 1)).toNatClampNeg = s.1 + 1 := n_cl
  rw [n_p1, e1]
  refine ⟨n_in (by omega), n_in (by omega), ?_⟩
  rw [e1]
  exact hk _ rfl
theorem s_madd {g p q b l r v : Int32} {k : Int32 → Int32 → (Nat → Int32) → (Nat → Int32) → (Nat → Int32) → (Nat → Int32) → (Nat → Int32) → (Nat → Int32) → (Nat → Int32) → Prop} (hm : s.1 ≤ 200)
    (hk : ∀ t : CS, t = addS s p q b l r v → k (nI t.1) (if b ≤ 0 then g else g + 1) (cP t) (cN t) (cB t) (cL t) (cR t) (cV t) (cX t)) : p_M_add (nI s.1) g (cP s) (cN s) (cB s) (cL s) (cR s) (cV s) (cX s) p q b l r v k := by
  unfold p_M_add
  rw [n_p1, n_cl]
  have h := hk _ rfl
  refine ⟨n_in (by omega), fun q => ?_, fun q => ?_⟩
  · rw [if_pos q] at h
    rw [Int32.add_zero]; exact h
  · rw [if_neg q] at h; exact h
end DR

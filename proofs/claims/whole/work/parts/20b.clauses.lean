/-! PURE: branches, the clauses' relation, the first empty one, what is needed -/
theorem ct {c A B : Prop} (h : c) (a : A) : (c → A) ∧ (¬ c → B) := ⟨fun _ => a, fun q => absurd h q⟩
theorem cf {c A B : Prop} (h : ¬ c) (b : B) : (c → A) ∧ (¬ c → B) := ⟨fun q => absurd q h, fun _ => b⟩
theorem dt {c A B : Prop} (h : c) (b : B) : (¬ c → A) ∧ (c → B) := ⟨fun q => absurd h q, fun _ => b⟩
theorem df {c A B : Prop} (h : ¬ c) (a : A) : (¬ c → A) ∧ (c → B) := ⟨fun _ => a, fun q => absurd q h⟩
theorem n_lt {a b : Nat} (h : a < b) (hb : b < 2 ^ 31 := by omega) : nI a < nI b := nI_lt h hb
theorem n_nlt {a b : Nat} (h : b ≤ a) (ha : a < 2 ^ 31 := by omega) : ¬ nI a < nI b := nI_nlt h ha
theorem n_le {a b : Nat} (h : a ≤ b) (hb : b < 2 ^ 31 := by omega) : nI a ≤ nI b := nI_le h hb
theorem n_nle {a b : Nat} (h : b < a) (ha : a < 2 ^ 31 := by omega) : ¬ nI a ≤ nI b := nI_ge h ha
theorem n_ne {a b : Nat} (h : a ≠ b) (ha : a < 2 ^ 31 := by omega) (hb : b < 2 ^ 31 := by omega) : ¬ nI a = nI b := fun q => h ((nI_eq ha hb).mp q)
theorem n_in {a b : Nat} (h : a < b) (hb : b < 2 ^ 31 := by omega) : vp_in (nI a) b := vp_in_nI h hb
theorem n_cl {a : Nat} (h : a < 2 ^ 31 := by omega) : (nI a).toNatClampNeg = a := nI_clamp h
theorem n_p1 (a : Nat) : nI a + 1 = nI (a + 1) := nI_1 a
theorem n_m1 (a : Nat) : nI (a + 1) + (-1) = nI a := pk_m1 a
/-- a clause that is there: given (a block, no parents), or a resolvent of earlier ones -/
def OKc (b l r v : Nat → Int32) (i : Nat) : Prop :=
  (∃ k : Nat, 1 ≤ k ∧ k ≤ 8 ∧ b i = nI k ∧ l i = 0 ∧ r i = 0 ∧ v i = 0) ∨ (b i = 0 ∧ ∃ x y z : Nat, 1 ≤ x ∧ x < i ∧ 1 ≤ y ∧ y < i ∧ 1 ≤ z ∧ z ≤ 10 ∧ l i = nI x ∧ r i = nI y ∧ v i = nI z)
/-- the class's rows are the reference's for the clauses 1 .. n -/
def EQc (n : Nat) (cb cl cr cv cP cN cL : Nat → Int32) (mb ml mr mv mP mN mL : Nat → Int32) : Prop :=
  ∀ i, 1 ≤ i → i ≤ n → cb i = mb i ∧ cl i = ml i ∧ cr i = mr i ∧ cv i = mv i ∧ cP i = mP i ∧ cN i = mN i ∧ cL i = mL i ∧ OKc mb ml mr mv i
theorem OKc.blk {b l r v : Nat → Int32} {i : Nat} (h : OKc b l r v i) : ∃ k : Nat, k ≤ 8 ∧ b i = nI k := by
  rcases h with ⟨k, -, h2, h3, -⟩ | ⟨h, -⟩
  · exact ⟨k, h2, h3⟩
  · exact ⟨0, by omega, h⟩
/-- e: the first clause of 1 .. n without literals; 0: there is none -/
def FE (n e : Nat) (P N : Nat → Int32) : Prop :=
  (e = 0 ∨ (1 ≤ e ∧ e ≤ n ∧ P e = 0 ∧ N e = 0)) ∧ ∀ i, 1 ≤ i → i ≤ n → (e = 0 ∨ i < e) → ¬ (P i = 0 ∧ N i = 0)
theorem FE.one {n e e2 : Nat} {P N : Nat → Int32} (h : FE n e P N) (g : FE n e2 P N) : e = e2 := by
  rcases h.1 with h0 | ⟨h1, h2, h3, h4⟩ <;> rcases g.1 with g0 | ⟨g1, g2, g3, g4⟩
  · omega
  · exact absurd ⟨g3, g4⟩ (h.2 e2 g1 g2 (Or.inl h0))
  · exact absurd ⟨h3, h4⟩ (g.2 e h1 h2 (Or.inl g0))
  · rcases Nat.lt_trichotomy e e2 with q | q | q
    · exact absurd ⟨h3, h4⟩ (g.2 e h1 h2 (Or.inr q))
    · exact q
    · exact absurd ⟨g3, g4⟩ (h.2 e2 g1 g2 (Or.inr q))
theorem FE.cong {n e : Nat} {P N P' N' : Nat → Int32} (h : FE n e P N) (hP : ∀ i, 1 ≤ i → i ≤ n → P' i = P i ∧ N' i = N i) : FE n e P' N' := by
  refine ⟨?_, fun i h1 h2 h3 => ?_⟩
  · rcases h.1 with h0 | ⟨h1, h2, h3, h4⟩
    · exact Or.inl h0
    · exact Or.inr ⟨h1, h2, by rw [(hP e h1 h2).1]; exact h3, by rw [(hP e h1 h2).2]; exact h4⟩
  · rw [(hP i h1 h2).1, (hP i h1 h2).2]; exact h.2 i h1 h2 h3
/-- there is one -/
theorem FE.ex (P N : Nat → Int32) : ∀ n, ∃ e, FE n e P N
  | 0 => ⟨0, Or.inl rfl, fun i h1 h2 => by omega⟩
  | n + 1 => by
    obtain ⟨e, h1, h2⟩ := FE.ex P N n
    by_cases h0 : e = 0
    · by_cases hz : P (n + 1) = 0 ∧ N (n + 1) = 0
      · exact ⟨n + 1, Or.inr ⟨by omega, Nat.le_refl _, hz.1, hz.2⟩, fun i a b c => h2 i a (by omega) (Or.inl h0)⟩
      · refine ⟨0, Or.inl rfl, fun i a b c => ?_⟩
        by_cases q : i = n + 1
        · rw [q]; exact hz
        · exact h2 i a (by omega) (Or.inl h0)
    · rcases h1 with h1 | ⟨a1, a2, a3, a4⟩
      · exact absurd h1 h0
      · exact ⟨e, Or.inr ⟨a1, by omega, a3, a4⟩, fun i a b c => h2 i a (by omega) c⟩
theorem FE.le {n e : Nat} {P N : Nat → Int32} (h : FE n e P N) : e ≤ n := by
  rcases h.1 with h | h
  · omega
  · exact h.2.1
/-- more clauses behind: the first one stays the first -/
theorem FE.more {n m e : Nat} {P N : Nat → Int32} (h : FE n e P N) (he : e ≠ 0) (hm : n ≤ m) : FE m e P N := by
  rcases h.1 with h0 | ⟨h1, h2, h3, h4⟩
  · exact absurd h0 he
  · exact ⟨Or.inr ⟨h1, by omega, h3, h4⟩, fun i a b c => h.2 i a (by omega) c⟩
theorem or_zero {x y : Int32} : (x ||| y) = 0 ↔ x = 0 ∧ y = 0 := by
  constructor
  · intro h
    have hb : (x ||| y).toBitVec = 0#32 := by rw [h]; rfl
    rw [Int32.toBitVec_or] at hb
    have h2 := BitVec.or_eq_zero_iff.mp hb
    exact ⟨Int32.toBitVec_inj.mp h2.1, Int32.toBitVec_inj.mp h2.2⟩
  · rintro ⟨rfl, rfl⟩; rfl
theorem l_findEmpty {n e : Nat} {P N : Nat → Int32} {k : Int32 → Prop} (hn : n ≤ 200) (hf : FE n e P N) (hk : k (nI e)) : ∀ (d i : Nat), d + i = n + 1 → 1 ≤ i → (e = 0 ∨ i ≤ e) → p_C_findEmpty_L2 (nI n) P N k (d + 2) (nI i) 0
  | 0, i, hd, h1, he => by
    unfold p_C_findEmpty_L2
    refine ct (n_lt (by omega)) ?_
    have := hf.le
    have : e = 0 := by omega
    rw [this] at hk; exact hk
  | d + 1, i, hd, h1, he => by
    unfold p_C_findEmpty_L2
    refine cf (n_nlt (by omega)) (dt rfl ⟨n_in (by omega), ?_⟩)
    rw [n_cl, n_p1]
    by_cases hz : (P i ||| N i) = 0
    · have hz2 := or_zero.mp hz
      have hie : i = e := by
        rcases he with he | he
        · exact absurd hz2 (hf.2 i h1 (by omega) (Or.inl he))
        · rcases Nat.lt_or_ge i e with q | q
          · exact absurd hz2 (hf.2 i h1 (by omega) (Or.inr q))
          · omega
      refine dt hz ?_
      rw [hie]
      unfold p_C_findEmpty_L2
      refine ⟨fun _ => hk, fun _ => df (n_ne (a := e) (b := 0) (by omega) (by have := hf.le; omega)) hk⟩
    · refine df hz (l_findEmpty hn hf hk d (i + 1) (by omega) (by omega) ?_)
      rcases he with he | he
      · exact Or.inl he
      · refine Or.inr ?_
        rcases Nat.lt_or_ge i e with q | q
        · omega
        · have : i = e := by omega
          rcases hf.1 with q0 | ⟨_, _, q3, q4⟩
          · omega
          · exact absurd (or_zero.mpr ⟨by rw [this]; exact q3, by rw [this]; exact q4⟩) hz
theorem s_findEmpty {n e e0 : Nat} {P N : Nat → Int32} {k : Int32 → Prop} (hn : n ≤ 200) (hf : FE n e P N) (h0 : e0 = 0 ∨ e0 = e) (hk : k (nI e)) : p_C_findEmpty (nI n) (nI e0) P N k := by
  unfold p_C_findEmpty
  by_cases hz : e0 = 0
  · subst hz
    by_cases hn0 : n = 0
    · subst hn0
      have : e = 0 := by have := hf.le; omega
      subst this
      exact ⟨1, by unfold p_C_findEmpty_L2; exact ct (by decide) hk⟩
    · exact ⟨(n - 1 + 1) + 2, l_findEmpty hn hf hk (n - 1 + 1) 1 (by omega) (by omega) (by omega)⟩
  · have : e0 = e := by omega
    subst this
    refine ⟨1, ?_⟩
    unfold p_C_findEmpty_L2
    exact ⟨fun _ => hk, fun _ => df (n_ne (a := e0) (b := 0) hz (by have := hf.le; omega)) hk⟩
def endOf (e : Nat) : Int32 := if e = 0 then -1 else nI e
theorem l_empty {n e : Nat} {P N : Nat → Int32} {k : Int32 → Prop} (hn : n ≤ 200) (hf : FE n e P N) (hk : k (endOf e)) : ∀ (d i : Nat), d + i = n + 1 → 1 ≤ i → (e = 0 ∨ i ≤ e) → p_M_empty_L2 (nI n) P N k (d + 1) (nI i)
  | 0, i, hd, h1, he => by
    unfold p_M_empty_L2
    refine ct (n_lt (by omega)) ?_
    have := hf.le
    have h0 : e = 0 := by omega
    rw [h0] at hk; exact hk
  | d + 1, i, hd, h1, he => by
    unfold p_M_empty_L2
    refine cf (n_nlt (by omega)) ⟨n_in (by omega), ?_⟩
    rw [n_cl, n_p1]
    have next : ¬ (P i = 0 ∧ N i = 0) → p_M_empty_L2 (nI n) P N k (d + 1) (nI (i + 1)) := fun hz => by
      refine l_empty hn hf hk d (i + 1) (by omega) (by omega) ?_
      rcases he with he | he
      · exact Or.inl he
      · refine Or.inr ?_
        rcases Nat.lt_or_ge i e with q | q
        · omega
        · have : i = e := by omega
          rcases hf.1 with q0 | ⟨_, _, q3, q4⟩
          · omega
          · exact absurd ⟨by rw [this]; exact q3, by rw [this]; exact q4⟩ hz
    refine ⟨fun q => next (fun h => q h.1), fun q => ⟨fun q2 => next (fun h => q2 h.2), fun q2 => ?_⟩⟩
    have hie : i = e := by
      rcases he with he | he
      · exact absurd ⟨q, q2⟩ (hf.2 i h1 (by omega) (Or.inl he))
      · rcases Nat.lt_or_ge i e with q5 | q5
        · exact absurd ⟨q, q2⟩ (hf.2 i h1 (by omega) (Or.inr q5))
        · omega
    have : endOf e = nI i := by unfold endOf; rw [if_neg (by omega), hie]
    rw [← this]; exact hk
theorem s_empty {n e : Nat} {P N : Nat → Int32} {k : Int32 → Prop} (hn : n ≤ 200) (hf : FE n e P N) (hk : k (endOf e)) : p_M_empty (nI n) P N k := by
  unfold p_M_empty
  exact ⟨n + 1, l_empty hn hf hk n 1 (by omega) (by omega) (by rcases hf.1 with h | h <;> omega)⟩

/-! PURE: elimination -/
def thr (s : CS) (p q : Int32) : Prop := ∃ k, 1 ≤ k ∧ k ≤ s.1 ∧ cP s k = p ∧ cN s k = q
theorem l_news {s : CS} {p q : Int32} {k : Int32 → Prop} (hm : s.1 ≤ 200) (h0 : thr s p q → k 0) (h1 : ¬ thr s p q → k 1) : ∀ (d i : Nat), d + i = s.1 + 1 → 1 ≤ i → (∀ j, 1 ≤ j → j < i → ¬ (cP s j = p ∧ cN s j = q)) → p_C_isNews_L33 (nI s.1) (cP s) (cN s) p q k (d + 1) (nI i)
  | 0, i, hd, hi, hj => by
    unfold p_C_isNews_L33
    exact ct (n_lt (by omega)) (h1 (fun ⟨j, a, b, c, d⟩ => hj j a (by omega) ⟨c, d⟩))
  | d + 1, i, hd, hi, hj => by
    have next : ¬ (cP s i = p ∧ cN s i = q) → p_C_isNews_L33 (nI s.1) (cP s) (cN s) p q k (d + 1) (nI (i + 1)) := fun h =>
      l_news hm h0 h1 d (i + 1) (by omega) (by omega) (fun j a b => by
        by_cases e : j = i
        · rw [e]; exact h
        · exact hj j a (by omega))
    unfold p_C_isNews_L33
    refine cf (n_nlt (by omega)) ⟨n_in (by omega), ?_⟩
    rw [n_cl, n_p1]
    exact ⟨fun z => next (fun h => z h.1), fun z => ⟨fun z2 => next (fun h => z2 h.2), fun z2 => h0 ⟨i, hi, by omega, z, z2⟩⟩⟩
theorem l_there {s : CS} {p q : Int32} {k : Int32 → Prop} (hm : s.1 ≤ 200) (h0 : thr s p q → k 1) (h1 : ¬ thr s p q → k 0) : ∀ (d i : Nat), d + i = s.1 + 1 → 1 ≤ i → (∀ j, 1 ≤ j → j < i → ¬ (cP s j = p ∧ cN s j = q)) → p_M_isThere_L2 (nI s.1) (cP s) (cN s) p q k (d + 1) (nI i)
  | 0, i, hd, hi, hj => by
    unfold p_M_isThere_L2
    exact ct (n_lt (by omega)) (h1 (fun ⟨j, a, b, c, d⟩ => hj j a (by omega) ⟨c, d⟩))
  | d + 1, i, hd, hi, hj => by
    have next : ¬ (cP s i = p ∧ cN s i = q) → p_M_isThere_L2 (nI s.1) (cP s) (cN s) p q k (d + 1) (nI (i + 1)) := fun h =>
      l_there hm h0 h1 d (i + 1) (by omega) (by omega) (fun j a b => by
        by_cases e : j = i
        · rw [e]; exact h
        · exact hj j a (by omega))
    unfold p_M_isThere_L2
    refine cf (n_nlt (by omega)) ⟨n_in (by omega), ?_⟩
    rw [n_cl, n_p1]
    exact ⟨fun z => next (fun h => z h.1), fun z => ⟨fun z2 => next (fun h => z2 h.2), fun z2 => h0 ⟨i, hi, by omega, z, z2⟩⟩⟩
/-- what the pair i, j gives: nothing, a resolvent, no room -/
def wants (s : CS) (i j v : Nat) : Prop := ¬ cX s i = 0 ∧ ¬ cX s j = 0 ∧ bt (cP s i) v = true ∧ bt (cN s j) v = true ∧ rp s i j v &&& rq s i j v = 0 ∧ ¬ thr s (rp s i j v) (rq s i j v)
noncomputable def elS (v i j : Nat) (s : CS) : Bool × CS := @ite _ (wants s i j v) (Classical.propDecidable _) (if s.1 < 200 then (true, addS s (rp s i j v) (rq s i j v) 0 (nI i) (nI j) (nI v)) else (false, s)) (true, s)
noncomputable def elJ (v i n : Nat) : Nat → CS → Bool × CS
  | 0, s => (true, s)
  | d + 1, s => if (elS v i (n - d) s).1 = true then elJ v i n d (elS v i (n - d) s).2 else elS v i (n - d) s
noncomputable def elI (v n : Nat) : Nat → CS → Bool × CS
  | 0, s => (true, s)
  | d + 1, s => if (elJ v (n - d) n n s).1 = true then elI v n d (elJ v (n - d) n n s).2 else elJ v (n - d) n n s
theorem elS_no {v i j : Nat} {s : CS} (h : ¬ wants s i j v) : elS v i j s = (true, s) := by unfold elS; rw [if_neg h]
theorem elS_yes {v i j : Nat} {s : CS} (h : wants s i j v) (hm : s.1 < 200) : elS v i j s = (true, addS s (rp s i j v) (rq s i j v) 0 (nI i) (nI j) (nI v)) := by unfold elS; rw [if_pos h, if_pos hm]
theorem elS_full {v i j : Nat} {s : CS} (h : wants s i j v) (hm : ¬ s.1 < 200) : elS v i j s = (false, s) := by unfold elS; rw [if_pos h, if_neg hm]
theorem elS_cases (v i j : Nat) (s : CS) : elS v i j s = (true, s) ∨ (wants s i j v ∧ s.1 < 200 ∧ elS v i j s = (true, addS s (rp s i j v) (rq s i j v) 0 (nI i) (nI j) (nI v))) ∨ (wants s i j v ∧ ¬ s.1 < 200 ∧ elS v i j s = (false, s)) := by
  by_cases h : wants s i j v
  · by_cases hm : s.1 < 200
    · exact Or.inr (Or.inl ⟨h, hm, elS_yes h hm⟩)
    · exact Or.inr (Or.inr ⟨h, hm, elS_full h hm⟩)
  · exact Or.inl (elS_no h)
/-- behind a state with n clauses at its start: those are as they were, all are good -/
def BH (n : Nat) (s0 s : CS) : Prop := n ≤ s.1 ∧ (∀ k, 1 ≤ k → k ≤ n → same s s0 k) ∧ GS s
theorem BH.stS {n v i j : Nat} {s0 s : CS} (h : BH n s0 s) (hi1 : 1 ≤ i) (hi : i ≤ n) (hj1 : 1 ≤ j) (hj : j ≤ n) (hv1 : 1 ≤ v) (hv2 : v ≤ 10) : BH n s0 (elS v i j s).2 := by
  rcases elS_cases v i j s with e | ⟨hw, hm, e⟩ | ⟨hw, hm, e⟩
  · rw [e]; exact h
  · rw [e]
    refine ⟨by show n ≤ s.1 + 1; have := h.1; omega, fun k k1 k2 => (add_old (by have := h.1; omega)).tr (h.2.1 k k1 k2), h.2.2.add hm ?_ hw.2.2.2.2.1⟩
    exact Or.inr ⟨rfl, i, j, v, hi1, by have := h.1; omega, hj1, by have := h.1; omega, hv1, hv2, rfl, rfl, rfl⟩
  · rw [e]; exact h
theorem BH.stJ {n v i : Nat} {s0 : CS} (hi1 : 1 ≤ i) (hi : i ≤ n) (hv1 : 1 ≤ v) (hv2 : v ≤ 10) : ∀ (d : Nat) (s : CS), d ≤ n → BH n s0 s → BH n s0 (elJ v i n d s).2
  | 0, s, _, h => h
  | d + 1, s, hd, h => by
    have h1 : BH n s0 (elS v i (n - d) s).2 := h.stS hi1 hi (by omega) (by omega) hv1 hv2
    unfold elJ
    split
    · exact BH.stJ hi1 hi hv1 hv2 d _ (by omega) h1
    · exact h1
theorem BH.stI {n v : Nat} {s0 : CS} (hv1 : 1 ≤ v) (hv2 : v ≤ 10) : ∀ (d : Nat) (s : CS), d ≤ n → BH n s0 s → BH n s0 (elI v n d s).2
  | 0, s, _, h => h
  | d + 1, s, hd, h => by
    have h1 : BH n s0 (elJ v (n - d) n n s).2 := BH.stJ (by omega) (by omega) hv1 hv2 n s (Nat.le_refl _) h
    unfold elI
    split
    · exact BH.stI hv1 hv2 d _ (by omega) h1
    · exact h1
/-- the same start gives the same -/
theorem wants_eq {s t : CS} {i j v : Nat} (h : EQs s t) (hi1 : 1 ≤ i) (hi : i ≤ s.1) (hj1 : 1 ≤ j) (hj : j ≤ s.1) : (wants s i j v ↔ wants t i j v) ∧ rp s i j v = rp t i j v ∧ rq s i j v = rq t i j v := by
  have a := h.2 i hi1 hi
  have b := h.2 j hj1 hj
  have e1 : rp s i j v = rp t i j v := by unfold rp; rw [a.2.2.2.2.1, b.2.2.2.2.1]
  have e2 : rq s i j v = rq t i j v := by unfold rq; rw [a.2.2.2.2.2.1, b.2.2.2.2.2.1]
  have e3 : ∀ p q, thr s p q ↔ thr t p q := fun p q => by
    constructor
    · rintro ⟨k, k1, k2, k3, k4⟩
      have c := h.2 k k1 k2
      exact ⟨k, k1, by rw [← h.1]; exact k2, by rw [← c.2.2.2.2.1]; exact k3, by rw [← c.2.2.2.2.2.1]; exact k4⟩
    · rintro ⟨k, k1, k2, k3, k4⟩
      rw [← h.1] at k2
      have c := h.2 k k1 k2
      exact ⟨k, k1, k2, by rw [c.2.2.2.2.1]; exact k3, by rw [c.2.2.2.2.2.1]; exact k4⟩
  refine ⟨?_, e1, e2⟩
  unfold wants
  rw [a.2.2.2.2.2.2, b.2.2.2.2.2.2, a.2.2.2.2.1, b.2.2.2.2.2.1, e1, e2, e3]
theorem elS_eq {s t : CS} {i j v : Nat} (h : EQs s t) (hi1 : 1 ≤ i) (hi : i ≤ s.1) (hj1 : 1 ≤ j) (hj : j ≤ s.1) : (elS v i j s).1 = (elS v i j t).1 ∧ EQs (elS v i j s).2 (elS v i j t).2 := by
  obtain ⟨hw, e1, e2⟩ := wants_eq (v := v) h hi1 hi hj1 hj
  rcases elS_cases v i j s with e | ⟨w, hm, e⟩ | ⟨w, hm, e⟩
  · by_cases q : wants s i j v
    · by_cases hm : s.1 < 200
      · rw [elS_yes q hm, elS_yes (hw.mp q) (by rw [← h.1]; exact hm)]
        refine ⟨rfl, ?_⟩
        show EQs (addS s _ _ _ _ _ _) (addS t _ _ _ _ _ _)
        rw [e1, e2]; exact add_eq h
      · rw [elS_full q hm, elS_full (hw.mp q) (by rw [← h.1]; exact hm)]; exact ⟨rfl, h⟩
    · rw [elS_no q, elS_no (fun z => q (hw.mpr z))]; exact ⟨rfl, h⟩
  · rw [e, elS_yes (hw.mp w) (by rw [← h.1]; exact hm)]
    refine ⟨rfl, ?_⟩
    show EQs (addS s _ _ _ _ _ _) (addS t _ _ _ _ _ _)
    rw [e1, e2]; exact add_eq h
  · rw [e, elS_full (hw.mp w) (by rw [← h.1]; exact hm)]; exact ⟨rfl, h⟩
theorem elS_len (v i j : Nat) (s : CS) : s.1 ≤ (elS v i j s).2.1 := by
  rcases elS_cases v i j s with e | ⟨w, hm, e⟩ | ⟨w, hm, e⟩ <;> rw [e]
  · exact Nat.le_refl _
  · show s.1 ≤ s.1 + 1; omega
  · exact Nat.le_refl _
theorem elJ_len (v i n : Nat) : ∀ (d : Nat) (s : CS), s.1 ≤ (elJ v i n d s).2.1
  | 0, s => Nat.le_refl _
  | d + 1, s => by
    have h1 := elS_len v i (n - d) s
    unfold elJ
    split
    · exact Nat.le_trans h1 (elJ_len v i n d _)
    · exact h1
theorem elJ_eq {v i n : Nat} (hi1 : 1 ≤ i) (hi : i ≤ n) : ∀ (d : Nat) (s t : CS), d ≤ n → n ≤ s.1 → EQs s t → (elJ v i n d s).1 = (elJ v i n d t).1 ∧ EQs (elJ v i n d s).2 (elJ v i n d t).2
  | 0, s, t, _, _, h => ⟨rfl, h⟩
  | d + 1, s, t, hd, hn, h => by
    have h1 := elS_eq (v := v) h hi1 (by omega) (show 1 ≤ n - d by omega) (by omega)
    have hl := elS_len v i (n - d) s
    unfold elJ
    rw [← h1.1]
    split
    · exact elJ_eq hi1 hi d _ _ (by omega) (by omega) h1.2
    · exact h1
theorem elI_eq {v n : Nat} : ∀ (d : Nat) (s t : CS), d ≤ n → n ≤ s.1 → EQs s t → (elI v n d s).1 = (elI v n d t).1 ∧ EQs (elI v n d s).2 (elI v n d t).2
  | 0, s, t, _, _, h => ⟨rfl, h⟩
  | d + 1, s, t, hd, hn, h => by
    have h1 := elJ_eq (v := v) (i := n - d) (n := n) (by omega) (by omega) n s t (Nat.le_refl _) hn h
    have hl := elJ_len v (n - d) n n s
    unfold elI
    rw [← h1.1]
    split
    · exact elI_eq d _ _ (by omega) (by omega) h1.2
    · exact h1
/-! the class's loops -/
section CE
variable {n v : Nat} {cg ce dg : Int32} {D : Nat → Int32} {k : Int32 → Int32 → Int32 → Int32 → Int32 → Int32 → (Nat → Int32) → (Nat → Int32) → (Nat → Int32) → (Nat → Int32) → (Nat → Int32) → (Nat → Int32) → (Nat → Int32) → (Nat → Int32) → Prop}
theorem l_c16 {s0 : CS} {i : Nat} {k85 : Int32 → (Nat → Int32) → (Nat → Int32) → (Nat → Int32) → (Nat → Int32) → (Nat → Int32) → (Nat → Int32) → (Nat → Int32) → Prop} (hv1 : 1 ≤ v) (hv2 : v ≤ 10) (hi1 : 1 ≤ i) (hi : i ≤ n) : ∀ (d : Nat) (s : CS), d ≤ n → BH n s0 s →
    (∀ t : CS, elJ v i n d s = (true, t) → k85 (nI t.1) (cB t) (cL t) (cR t) (cV t) (cP t) (cN t) (cX t)) → (∀ t : CS, elJ v i n d s = (false, t) → k (-3) (nI n) cg ce (nI t.1) dg (cB t) (cL t) (cR t) (cV t) (cP t) (cN t) (cX t) D) →
    p_C_resolveAway_L16 (nI n) cg ce dg D (nI v) (nI i) k k85 (d + 1) (nI (n + 1 - d)) (nI s.1) (cB s) (cL s) (cR s) (cV s) (cP s) (cN s) (cX s)
  | 0, s, hd, hb, h1, h0 => by
    have := hb.2.2.1
    have := hb.1
    unfold p_C_resolveAway_L16
    exact ct (n_lt (by omega)) (h1 s rfl)
  | d + 1, s, hd, hb, h1, h0 => by
    have hm := hb.2.2.1
    have hn := hb.1
    have hj : n + 1 - (d + 1) = n - d := by omega
    have hj1 : n + 1 - d = n - d + 1 := by omega
    have no : ¬ wants s i (n - d) v → p_C_resolveAway_L16 (nI n) cg ce dg D (nI v) (nI i) k k85 (d + 1) (nI (n - d + 1)) (nI s.1) (cB s) (cL s) (cR s) (cV s) (cP s) (cN s) (cX s) := fun q => by
      have e : ∀ t, elJ v i n (d + 1) s = t ↔ elJ v i n d s = t := fun t => by
        rw [show elJ v i n (d + 1) s = elJ v i n d s by show (if _ then _ else _) = _; rw [elS_no q, if_pos rfl]]
      rw [← hj1]
      exact l_c16 hv1 hv2 hi1 hi d s (by omega) hb (fun t ht => h1 t ((e _).mpr ht)) (fun t ht => h0 t ((e _).mpr ht))
    unfold p_C_resolveAway_L16
    rw [hj, n_p1]
    refine cf (n_nlt (by omega)) ⟨n_in (by omega), ?_⟩
    rw [n_cl, n_cl]
    refine ⟨fun q => no (fun h => h.1 q), fun qi => ⟨n_in (by omega), fun q => no (fun h => h.2.1 q), fun qj => ?_⟩⟩
    refine s_resolves hv1 hv2 (by omega) (by omega) (fun qp qn => cf (by decide) ?_) (fun q => ct rfl (no (fun h => q ⟨h.2.2.1, h.2.2.2.1⟩)))
    unfold p_C_isNews
    refine s_clashes (by omega) (by omega) (fun qc => ct rfl (s_posRest (by omega) (by omega) (s_negRest (by omega) (by omega) ⟨s.1 + 1, l_news hm (fun q => ct rfl (no (fun h => h.2.2.2.2.2 q))) (fun qt => cf (by decide) ?_) s.1 1 (by omega) (by omega) (fun j a b => by omega)⟩))) (fun q => cf (by decide) (ct rfl (no (fun h => q h.2.2.2.2.1))))
    have hw : wants s i (n - d) v := ⟨qi, qj, qp, qn, qc, qt⟩
    refine s_hasRoom hm (fun hr => df (by decide) (s_draftRes hr hi1 (by omega) (by omega) (by omega) (fun t ht => ?_))) (fun hr => dt rfl ?_)
    · have e2 := elS_yes hw hr
      have e : elJ v i n (d + 1) s = elJ v i n d t := by
        show (if _ then _ else _) = _
        rw [e2, if_pos rfl, ht]
      rw [← hj1]
      have hbt : BH n s0 t := by
        have := hb.stS (v := v) hi1 hi (show 1 ≤ n - d by omega) (by omega) hv1 hv2
        rw [e2] at this; rw [ht]; exact this
      exact l_c16 hv1 hv2 hi1 hi d t (by omega) hbt (fun t ht => h1 t (e.trans ht)) (fun t ht => h0 t (e.trans ht))
    · refine h0 s ?_
      show (if _ then _ else _) = _
      rw [elS_full hw (by omega), if_neg Bool.false_ne_true]
theorem l_c6 {s0 : CS} (hv1 : 1 ≤ v) (hv2 : v ≤ 10) : ∀ (d : Nat) (s : CS), d ≤ n → BH n s0 s →
    (∀ t : CS, elI v n d s = (true, t) → p_C_retire (nI n) (cP t) (cN t) (cX t) (nI v) (fun X => p_C_keepDraft (nI n) ce (nI t.1) dg (cB t) (cL t) (cR t) (cP t) (cN t) D (fun r a b c N' => k r a b c (nI t.1) dg (cB t) (cL t) (cR t) (cV t) (cP t) (cN t) X N'))) →
    (∀ t : CS, elI v n d s = (false, t) → k (-3) (nI n) cg ce (nI t.1) dg (cB t) (cL t) (cR t) (cV t) (cP t) (cN t) (cX t) D) →
    p_C_resolveAway_L6 (nI n) cg ce dg D (nI v) k (d + 1) (nI (n + 1 - d)) (nI s.1) (cB s) (cL s) (cR s) (cV s) (cP s) (cN s) (cX s)
  | 0, s, hd, hb, h1, h0 => by
    have := hb.2.2.1
    have := hb.1
    unfold p_C_resolveAway_L6
    exact ct (n_lt (by omega)) (h1 s rfl)
  | d + 1, s, hd, hb, h1, h0 => by
    have hm := hb.2.2.1
    have hn := hb.1
    have hj : n + 1 - (d + 1) = n - d := by omega
    have hj1 : n + 1 - d = n - d + 1 := by omega
    unfold p_C_resolveAway_L6
    rw [hj, n_p1]
    have e16 := l_c16 (k := k) (cg := cg) (ce := ce) (dg := dg) (D := D) (s0 := s0) (i := n - d) hv1 hv2 (by omega) (by omega) n s (Nat.le_refl _) hb (k85 := fun a b c d' e f g h => p_C_resolveAway_L6 (nI n) cg ce dg D (nI v) k (d + 1) (nI (n - d + 1)) a b c d' e f g h) (fun t ht => ?_) (fun t ht => ?_)
    · rw [show n + 1 - n = 1 by omega] at e16
      exact cf (n_nlt (by omega)) ⟨n + 1, e16⟩
    · have hbt : BH n s0 t := by
        have := BH.stJ (v := v) (i := n - d) (s0 := s0) (by omega) (by omega) hv1 hv2 n s (Nat.le_refl _) hb
        rw [ht] at this; exact this
      have e : elI v n (d + 1) s = elI v n d t := by
        show (if _ then _ else _) = _
        rw [ht, if_pos rfl]
      rw [← hj1]
      exact l_c6 hv1 hv2 d t (by omega) hbt (fun t ht => h1 t (e.trans ht)) (fun t ht => h0 t (e.trans ht))
    · refine h0 t ?_
      show (if _ then _ else _) = _
      rw [ht, if_neg Bool.false_ne_true]
end CE
/-- what is not LIVE any more -/
def retd (s : CS) (v n : Nat) (X : Nat → Int32) (i : Nat) : Prop := ∀ k, X k = if 1 ≤ k ∧ k < i ∧ k ≤ n ∧ bt (cP s k ||| cN s k) v = true then 0 else cX s k
theorem l_ret {s : CS} {v n : Nat} {k : (Nat → Int32) → Prop} (hn : n ≤ 200) (hv1 : 1 ≤ v) (hv2 : v ≤ 10) (hk : ∀ X, retd s v n X (n + 1) → k X) : ∀ (d i : Nat) (X : Nat → Int32), d + i = n + 1 → 1 ≤ i → retd s v n X i → p_C_retire_L2 (nI n) (cP s) (cN s) (nI v) k (d + 1) (nI i) X
  | 0, i, X, hd, hi, hX => by
    unfold p_C_retire_L2
    have : i = n + 1 := by omega
    rw [this] at hX
    exact ct (n_lt (by omega)) (hk X hX)
  | d + 1, i, X, hd, hi, hX => by
    unfold p_C_retire_L2 p_B_bitOf
    refine cf (n_nlt (by omega)) ⟨n_in (by omega), ?_⟩
    rw [n_cl, n_p1]
    show (((cP s i ||| cN s i) &&& bv v = 0 → _) ∧ (¬ (cP s i ||| cN s i) &&& bv v = 0 → _))
    refine ⟨fun q => l_ret hn hv1 hv2 hk d (i + 1) X (by omega) (by omega) (fun j => ?_), fun q => l_ret hn hv1 hv2 hk d (i + 1) _ (by omega) (by omega) (fun j => ?_)⟩
    · rw [bv_and hv1 hv2] at q
      rw [hX j]
      by_cases e : j = i
      · subst e
        rw [if_neg (by omega), if_neg (by rw [q]; simp)]
      · by_cases h : 1 ≤ j ∧ j < i ∧ j ≤ n ∧ bt (cP s j ||| cN s j) v = true
        · rw [if_pos h, if_pos ⟨h.1, by omega, h.2.2⟩]
        · rw [if_neg h, if_neg (fun g => h ⟨g.1, by omega, g.2.2⟩)]
    · rw [bv_and' hv1 hv2] at q
      by_cases e : j = i
      · subst e; rw [upd_s, if_pos ⟨hi, by omega, by omega, q⟩]
      · rw [upd_n e, hX j]
        by_cases h : 1 ≤ j ∧ j < i ∧ j ≤ n ∧ bt (cP s j ||| cN s j) v = true
        · rw [if_pos h, if_pos ⟨h.1, by omega, h.2.2⟩]
        · rw [if_neg h, if_neg (fun g => h ⟨g.1, by omega, g.2.2⟩)]
theorem s_ret {s : CS} {v n : Nat} {k : (Nat → Int32) → Prop} (hn : n ≤ 200) (hv1 : 1 ≤ v) (hv2 : v ≤ 10) (hk : ∀ X, retd s v n X (n + 1) → k X) : p_C_retire (nI n) (cP s) (cN s) (cX s) (nI v) k := by
  unfold p_C_retire
  exact ⟨n + 1, l_ret hn hv1 hv2 hk n 1 _ (by omega) (by omega) (fun j => by rw [if_neg (by omega)])⟩

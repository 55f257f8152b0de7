/-! PURE: elimination, the reference's loops, and both together -/
theorem pr_of {b : Bool} {p : Bool × CS} (h : b = p.1) : ∃ t, p = (b, t) := ⟨p.2, by rw [h]⟩
theorem elJ_no {v i n : Nat} {s : CS} (h : ∀ j, ¬ wants s i j v) : ∀ d, elJ v i n d s = (true, s)
  | 0 => rfl
  | d + 1 => by
    show (if _ then _ else _) = _
    rw [elS_no (h _), if_pos rfl]
    exact elJ_no h d
section ME
variable {n v : Nat} {g : Int32}
theorem l_m69 {s0 : CS} {i : Nat} {kk : Int32 → Int32 → Int32 → (Nat → Int32) → (Nat → Int32) → (Nat → Int32) → (Nat → Int32) → (Nat → Int32) → (Nat → Int32) → (Nat → Int32) → Prop} (hv1 : 1 ≤ v) (hv2 : v ≤ 10) (hi1 : 1 ≤ i) (hi : i ≤ n) (hXi : ¬ cX s0 i = 0) (hPi : bt (cP s0 i) v = true) : ∀ (d : Nat) (s : CS), d ≤ n → BH n s0 s →
    (∀ t : CS, elJ v i n d s = (true, t) → kk 1 (nI t.1) g (cP t) (cN t) (cB t) (cL t) (cR t) (cV t) (cX t)) → (∀ t : CS, elJ v i n d s = (false, t) → kk 0 (nI t.1) g (cP t) (cN t) (cB t) (cL t) (cR t) (cV t) (cX t)) →
    p_M_eliminate_L69 (nI v) (bv v) (nI n) (nI i) kk (d + 1) 1 (nI (n + 1 - d)) (nI s.1) g (cP s) (cN s) (cB s) (cL s) (cR s) (cV s) (cX s)
  | 0, s, hd, hb, h1, h0 => by
    have := hb.2.2.1
    have := hb.1
    unfold p_M_eliminate_L69
    exact ct (n_lt (by omega)) (h1 s rfl)
  | d + 1, s, hd, hb, h1, h0 => by
    have hm := hb.2.2.1
    have hn := hb.1
    have hj : n + 1 - (d + 1) = n - d := by omega
    have hj1 : n + 1 - d = n - d + 1 := by omega
    have hsi := hb.2.1 i hi1 hi
    have no : ¬ wants s i (n - d) v → p_M_eliminate_L69 (nI v) (bv v) (nI n) (nI i) kk (d + 1) 1 (nI (n - d + 1)) (nI s.1) g (cP s) (cN s) (cB s) (cL s) (cR s) (cV s) (cX s) := fun q => by
      have e : ∀ t, elJ v i n (d + 1) s = t ↔ elJ v i n d s = t := fun t => by
        rw [show elJ v i n (d + 1) s = elJ v i n d s by show (if _ then _ else _) = _; rw [elS_no q, if_pos rfl]]
      rw [← hj1]
      exact l_m69 hv1 hv2 hi1 hi hXi hPi d s (by omega) hb (fun t ht => h1 t ((e _).mpr ht)) (fun t ht => h0 t ((e _).mpr ht))
    have qi : ¬ cX s i = 0 := by rw [hsi.2.2.2.2.2.2]; exact hXi
    have qp : bt (cP s i) v = true := by rw [hsi.2.2.2.2.1]; exact hPi
    unfold p_M_eliminate_L69
    rw [hj, n_p1]
    refine cf (n_nlt (by omega)) (cf (by decide) ⟨n_in (by omega), ?_⟩)
    rw [n_cl, n_cl]
    refine ⟨fun q => no (fun h => h.2.1 q), fun qj => ⟨fun q2 => ⟨n_in (by omega), fun v7 e7 v8 e8 => ?_⟩, fun q2 => no (fun h => ?_)⟩⟩
    · have qn : bt (cN s (n - d)) v = true := (bv_and' hv1 hv2).mp q2
      rw [rp_m hv1 hv2 (hb.2.2.2 (n - d) (by omega) (by omega)).2 qn] at e7
      rw [rq_m hv1 hv2 (hb.2.2.2 i hi1 (by omega)).2 qp] at e8
      rw [e7, e8]
      refine ⟨fun q => no (fun h => q h.2.2.2.2.1), fun qc => ?_⟩
      unfold p_M_isThere
      refine ⟨s.1 + 1, l_there hm (fun q => cf (by decide) (no (fun h => h.2.2.2.2.2 q))) (fun qt => ct rfl ?_) s.1 1 (by omega) (by omega) (fun j a b => by omega)⟩
      have hw : wants s i (n - d) v := ⟨qi, qj, qp, qn, qc, qt⟩
      refine ⟨fun q => ct rfl ?_, fun q => cf (by decide) (s_madd hm (fun t ht => ?_))⟩
      · have hr : ¬ s.1 < 200 := by
          have : 200 ≤ s.1 := (nI_leI (a := 200) (by omega) (by omega)).mp q
          omega
        have e : elJ v i n (d + 1) s = (false, s) := by
          show (if _ then _ else _) = _
          rw [elS_full hw hr, if_neg Bool.false_ne_true]
        have h3 := h0 s e
        unfold p_M_eliminate_L69
        exact ⟨fun _ => h3, fun _ => ct rfl h3⟩
      · have hr : s.1 < 200 := by
          rcases Nat.lt_or_ge s.1 200 with z | z
          · exact z
          · exact absurd (n_le (a := 200) z) q
        rw [if_pos (by decide)]
        have e2 := elS_yes hw hr
        have e : elJ v i n (d + 1) s = elJ v i n d t := by
          show (if _ then _ else _) = _
          rw [e2, if_pos rfl, ht]
        rw [← hj1]
        have hbt : BH n s0 t := by
          have := hb.stS (v := v) hi1 hi (show 1 ≤ n - d by omega) (by omega) hv1 hv2
          rw [e2] at this; rw [ht]; exact this
        exact l_m69 hv1 hv2 hi1 hi hXi hPi d t (by omega) hbt (fun t ht => h1 t (e.trans ht)) (fun t ht => h0 t (e.trans ht))
    · rw [bv_and hv1 hv2] at q2
      exact absurd (q2.symm.trans h.2.2.2.1) Bool.false_ne_true
theorem l_m30 {s0 : CS} {kk : Int32 → Int32 → Int32 → (Nat → Int32) → (Nat → Int32) → (Nat → Int32) → (Nat → Int32) → (Nat → Int32) → (Nat → Int32) → (Nat → Int32) → Prop} (hv1 : 1 ≤ v) (hv2 : v ≤ 10) : ∀ (d : Nat) (s : CS), d ≤ n → BH n s0 s →
    (∀ t : CS, elI v n d s = (true, t) → kk 1 (nI t.1) g (cP t) (cN t) (cB t) (cL t) (cR t) (cV t) (cX t)) → (∀ t : CS, elI v n d s = (false, t) → kk 0 (nI t.1) g (cP t) (cN t) (cB t) (cL t) (cR t) (cV t) (cX t)) →
    p_M_eliminate_L30 (nI v) (bv v) (nI n) kk (d + 1) 1 (nI (n + 1 - d)) (nI s.1) g (cP s) (cN s) (cB s) (cL s) (cR s) (cV s) (cX s)
  | 0, s, hd, hb, h1, h0 => by
    have := hb.2.2.1
    have := hb.1
    unfold p_M_eliminate_L30
    exact ct (n_lt (by omega)) (h1 s rfl)
  | d + 1, s, hd, hb, h1, h0 => by
    have hm := hb.2.2.1
    have hn := hb.1
    have hj : n + 1 - (d + 1) = n - d := by omega
    have hj1 : n + 1 - d = n - d + 1 := by omega
    have no : (∀ j, ¬ wants s (n - d) j v) → p_M_eliminate_L30 (nI v) (bv v) (nI n) kk (d + 1) 1 (nI (n - d + 1)) (nI s.1) g (cP s) (cN s) (cB s) (cL s) (cR s) (cV s) (cX s) := fun q => by
      have e : ∀ t, elI v n (d + 1) s = t ↔ elI v n d s = t := fun t => by
        rw [show elI v n (d + 1) s = elI v n d s by show (if _ then _ else _) = _; rw [elJ_no q, if_pos rfl]]
      rw [← hj1]
      exact l_m30 hv1 hv2 d s (by omega) hb (fun t ht => h1 t ((e _).mpr ht)) (fun t ht => h0 t ((e _).mpr ht))
    unfold p_M_eliminate_L30
    rw [hj, n_p1]
    refine cf (n_nlt (by omega)) (cf (by decide) ⟨n_in (by omega), ?_⟩)
    rw [n_cl]
    refine ⟨fun q => no (fun j h => h.1 q), fun qi => ⟨fun q2 => ?_, fun q2 => no (fun j h => ?_)⟩⟩
    · have qp : bt (cP s (n - d)) v = true := (bv_and' hv1 hv2).mp q2
      have hss : BH n s s := ⟨hn, fun k _ _ => same.rf, hb.2.2⟩
      have e69 := l_m69 (g := g) (i := n - d) hv1 hv2 (by omega) (by omega) qi qp n s (Nat.le_refl _) hss (kk := fun x a b c d' e f g h i => p_M_eliminate_L30 (nI v) (bv v) (nI n) kk (d + 1) x (nI (n - d + 1)) a b c d' e f g h i) (fun t ht => ?_) (fun t ht => ?_)
      · rw [show n + 1 - n = 1 by omega] at e69
        exact ⟨n + 1, e69⟩
      · have hbt : BH n s0 t := by
          have := BH.stJ (v := v) (i := n - d) (s0 := s0) (by omega) (by omega) hv1 hv2 n s (Nat.le_refl _) hb
          rw [ht] at this; exact this
        have e : elI v n (d + 1) s = elI v n d t := by
          show (if _ then _ else _) = _
          rw [ht, if_pos rfl]
        rw [← hj1]
        exact l_m30 hv1 hv2 d t (by omega) hbt (fun t ht => h1 t (e.trans ht)) (fun t ht => h0 t (e.trans ht))
      · have e : elI v n (d + 1) s = (false, t) := by
          show (if _ then _ else _) = _
          rw [ht, if_neg Bool.false_ne_true]
        have h3 := h0 t e
        show p_M_eliminate_L30 (nI v) (bv v) (nI n) kk (d + 1) 0 (nI (n - d + 1)) (nI t.1) g (cP t) (cN t) (cB t) (cL t) (cR t) (cV t) (cX t)
        unfold p_M_eliminate_L30
        exact ⟨fun _ => h3, fun _ => ct rfl h3⟩
    · rw [bv_and hv1 hv2] at q2
      exact absurd (q2.symm.trans h.2.2.1) Bool.false_ne_true
theorem l_m233 {s : CS} {v n m : Nat} {D : Nat → Int32} {k : Int32 → Int32 → Int32 → Int32 → (Nat → Int32) → (Nat → Int32) → (Nat → Int32) → (Nat → Int32) → (Nat → Int32) → (Nat → Int32) → (Nat → Int32) → (Nat → Int32) → Prop} (hn : n ≤ 200) (hv1 : 1 ≤ v) (hv2 : v ≤ 10)
    (hk : ∀ X, retd s v n X (n + 1) → p_M_find (nI m) (cP s) (cN s) (cB s) (cL s) (cR s) D (fun E D' => k (nI m - nI n) (nI m) g E (cP s) (cN s) (cB s) (cL s) (cR s) (cV s) X D')) : ∀ (d i : Nat) (X : Nat → Int32), d + i = n + 1 → 1 ≤ i → retd s v n X i → p_M_eliminate_L233 (nI m) g (cP s) (cN s) (cB s) (cL s) (cR s) (cV s) D (bv v) (nI n) k (d + 1) (nI i) X
  | 0, i, X, hd, hi, hX => by
    unfold p_M_eliminate_L233
    have : i = n + 1 := by omega
    rw [this] at hX
    exact ct (n_lt (by omega)) (hk X hX)
  | d + 1, i, X, hd, hi, hX => by
    unfold p_M_eliminate_L233
    refine cf (n_nlt (by omega)) ⟨n_in (by omega), ?_⟩
    rw [n_cl, n_p1]
    refine ⟨fun q => l_m233 hn hv1 hv2 hk d (i + 1) X (by omega) (by omega) (fun j => ?_), fun q => l_m233 hn hv1 hv2 hk d (i + 1) _ (by omega) (by omega) (fun j => ?_)⟩
    · rw [bv_and hv1 hv2] at q
      rw [hX j]
      by_cases e : j = i
      · subst e
        rw [if_neg (by omega), if_neg (by rw [q]; simp)]
      · by_cases h : 1 ≤ j ∧ j < i ∧ j ≤ n ∧ bt (cP s j ||| cN s j) v = true
        · rw [if_pos h, if_pos ⟨h.1, by omega, h.2.2⟩]
        · rw [if_neg h, if_neg (fun g => h ⟨g.1, by omega, g.2.2⟩)]
    · rw [bv_and' hv1 hv2] at q
      by_cases e : j = i
      · subst e; rw [upd_s, if_pos ⟨hi, by omega, by omega, q⟩]
      · rw [upd_n e, hX j]
        by_cases h : 1 ≤ j ∧ j < i ∧ j ≤ n ∧ bt (cP s j ||| cN s j) v = true
        · rw [if_pos h, if_pos ⟨h.1, by omega, h.2.2⟩]
        · rw [if_neg h, if_neg (fun g => h ⟨g.1, by omega, g.2.2⟩)]
end ME
/-- a keepDraft() and a find() behind the same clauses -/
theorem s_keep {n0 e0 : Nat} {s t : CS} {D : Nat → Int32} {dg : Int32} {k : Int32 → Int32 → Int32 → Int32 → (Nat → Int32) → Prop} (hst : EQs s t) (hg : GS t) (h0 : FE n0 e0 (cP t) (cN t)) (hn0 : n0 ≤ t.1)
    (hk : ∀ e D', FE t.1 e (cP t) (cN t) → (∀ g, (∀ j, j < 202 → g j = if j = e ∧ e ≠ 0 then 1 else 0) → RN t.1 e (cB t) (cL t) (cR t) D' (mkN (cB t) (cL t) (cR t) e g)) → k (nI s.1 - nI n0) (nI s.1) dg (nI e) D') :
    p_C_keepDraft (nI n0) (nI e0) (nI s.1) dg (cB s) (cL s) (cR s) (cP s) (cN s) D k := by
  obtain ⟨e, he⟩ := FE.ex (cP t) (cN t) t.1
  have hle := he.le
  have hs1 := hst.1
  have hes : FE s.1 e (cP s) (cN s) := by
    rw [hs1]
    exact he.cong (fun i a b => ⟨(hst.2 i a (by omega)).2.2.2.2.1, (hst.2 i a (by omega)).2.2.2.2.2.1⟩)
  unfold p_C_keepDraft
  have hz : e0 = 0 ∨ e0 = e := by
    by_cases q : e0 = 0
    · exact Or.inl q
    · exact Or.inr ((h0.more q hn0).one he)
  refine s_findEmpty (by rw [hs1]; exact hg.1) hes hz (s_mark (v := cV s) (by have := hg.1; omega) (fun j a b => ?_) (fun gg hgg => hk e _ he (fun g2 hg2 => ?_)))
  · have c := hst.2 j a (by omega)
    exact (hg.2 j a (by omega)).1.cong c.1 c.2.1 c.2.2.1 c.2.2.2.1
  · exact RN.of hg.1 hle (fun j a b => (hg.2 j a b).1) (fun j a b => by have c := hst.2 j a (by omega); exact ⟨c.1, c.2.1, c.2.2.1⟩) hgg hg2
theorem EQc.st {n : Nat} {cb cl cr cv cp cn cl2 mb ml mr mv mp mn ml2 : Nat → Int32} (h : EQc n cb cl cr cv cp cn cl2 mb ml mr mv mp mn ml2) : EQs (n, cb, cl, cr, cv, cp, cn, cl2) (n, mb, ml, mr, mv, mp, mn, ml2) :=
  ⟨rfl, fun k a b => by obtain ⟨h1, h2, h3, h4, h5, h6, h7, -⟩ := h k a b; exact ⟨h1, h2, h3, h4, h5, h6, h7⟩⟩
theorem s_eliminate {csz cgv cem cdr cdg mcl mgv mend x1 : Int32} {cb cl cr cv cp cn cx cD mb ml mr mv mp mn mx mD : Nat → Int32}
    {K : Int32 → Int32 → Int32 → Int32 → Int32 → Int32 → (Nat → Int32) → (Nat → Int32) → (Nat → Int32) → (Nat → Int32) → (Nat → Int32) → (Nat → Int32) → (Nat → Int32) → (Nat → Int32) → Int32 → Int32 → Int32 → Int32 → (Nat → Int32) → (Nat → Int32) → (Nat → Int32) → (Nat → Int32) → (Nat → Int32) → (Nat → Int32) → (Nat → Int32) → (Nat → Int32) → Prop}
    (hr : RCL csz cgv cem cb cl cr cv cp cn cx cD mcl mgv mend mb ml mr mv mp mn mx mD)
    (hk : ∀ r a b c d e cb cl cr cv cp cn cx cD x y z mp mn mb ml mr mv mx mD, RCL a b c cb cl cr cv cp cn cx cD x y z mb ml mr mv mp mn mx mD → K r a b c d e cb cl cr cv cp cn cx cD r x y z mp mn mb ml mr mv mx mD) :
    p_B_eliminate csz cgv cem cdr cdg cb cl cr cv cp cn cx cD x1 (fun r a b c d e f1 f2 f3 f4 f5 f6 f7 f8 => p_M_eliminate mcl mgv mend mp mn mb ml mr mv mx mD x1 (fun r' x y z g1 g2 g3 g4 g5 g6 g7 g8 => K r a b c d e f1 f2 f3 f4 f5 f6 f7 f8 r' x y z g1 g2 g3 g4 g5 g6 g7 g8)) := by
  have hr0 := hr
  obtain ⟨n, g, e, hn, hg, rfl, rfl, rfl, rfl, rfl, rfl, hE, hF, hN, hJ⟩ := hr
  unfold p_B_eliminate
  refine s_isVar (fun h => cf (by decide) ?_) (fun h => ct rfl ?_)
  · obtain ⟨v, v1, v2, rfl⟩ := inR_nat (a := 1) (b := 10) h (by decide) (by decide)
    have hst := hE.st
    have hgt : GS (n, mb, ml, mr, mv, mp, mn, mx) := ⟨hn, fun k a b => ⟨hE.okm k a b, hJ k a b⟩⟩
    have hgs : GS (n, cb, cl, cr, cv, cp, cn, cx) := ⟨hn, fun k a b => ⟨hE.okc k a b, by obtain ⟨h1, h2, h3, h4, h5, h6, h7, -⟩ := hE k a b; show cp k &&& cn k = 0; rw [h5, h6]; exact hJ k a b⟩⟩
    have hbs : BH n (n, cb, cl, cr, cv, cp, cn, cx) (n, cb, cl, cr, cv, cp, cn, cx) := ⟨Nat.le_refl _, fun k _ _ => same.rf, hgs⟩
    have hbt : BH n (n, mb, ml, mr, mv, mp, mn, mx) (n, mb, ml, mr, mv, mp, mn, mx) := ⟨Nat.le_refl _, fun k _ _ => same.rf, hgt⟩
    have heq := elI_eq (v := v) n (n, cb, cl, cr, cv, cp, cn, cx) (n, mb, ml, mr, mv, mp, mn, mx) (Nat.le_refl _) (Nat.le_refl _) hst
    have hbs2 := BH.stI v1 v2 n _ (Nat.le_refl _) hbs
    have hbt2 := BH.stI v1 v2 n _ (Nat.le_refl _) hbt
    unfold p_C_resolveAway p_C_startDraft
    have c6 := l_c6 (n := n) (v := v) (cg := nI g) (ce := nI e) (dg := nI g) (D := cD) v1 v2 n (n, cb, cl, cr, cv, cp, cn, cx) (Nat.le_refl _) hbs (k := fun r a b c d e' f1 f2 f3 f4 f5 f6 f7 f8 => p_M_eliminate (nI n) (nI g) (endOf e) mp mn mb ml mr mv mx mD (nI v) (fun r' x y z g1 g2 g3 g4 g5 g6 g7 g8 => K r a b c d e' f1 f2 f3 f4 f5 f6 f7 f8 r' x y z g1 g2 g3 g4 g5 g6 g7 g8)) (fun s hs => ?_) (fun s hs => ?_)
    · rw [show n + 1 - n = 1 by omega] at c6
      exact ⟨n + 1, c6⟩
    · -- all resolvents came
      rw [hs] at heq hbs2
      obtain ⟨t, ht⟩ : ∃ t, elI v n n (n, mb, ml, mr, mv, mp, mn, mx) = (true, t) := pr_of heq.1
      rw [ht] at heq hbt2
      have heq : EQs s t := heq.2
      have hbt2 : BH n (n, mb, ml, mr, mv, mp, mn, mx) t := hbt2
      have hbs2 : BH n (n, cb, cl, cr, cv, cp, cn, cx) s := hbs2
      refine s_ret hn v1 v2 (fun X hX => ?_)
      have hFt : FE n e (cP t) (cN t) := hF.cong (fun i a b => ⟨(hbt2.2.1 i a b).2.2.2.2.1, (hbt2.2.1 i a b).2.2.2.2.2.1⟩)
      refine s_keep heq hbt2.2.2 hFt hbt2.1 (fun e2 D2 hF2 hN2 => ?_)
      unfold p_M_eliminate
      refine s_in (fun _ => df (by decide) ?_) (fun q => absurd h q)
      have m30 := l_m30 (n := n) (v := v) (g := nI g) v1 v2 n (n, mb, ml, mr, mv, mp, mn, mx) (Nat.le_refl _) hbt (kk := fun x a b c1 c2 c3 c4 c5 c6 c7 => p_M_eliminate_J217 (fun r' x y z g1 g2 g3 g4 g5 g6 g7 g8 => K (nI s.1 - nI n) (nI s.1) (nI g) (nI e2) (nI s.1) (nI g) (cB s) (cL s) (cR s) (cV s) (cP s) (cN s) X D2 r' x y z g1 g2 g3 g4 g5 g6 g7 g8) (bv v) (nI n) x a b (endOf e) c1 c2 c3 c4 c5 c6 c7 mD) (fun t' ht' => ?_) (fun t' ht' => ?_)
      · rw [show n + 1 - n = 1 by omega] at m30
        exact ⟨n + 1, m30⟩
      · rw [ht] at ht'
        cases ht'
        unfold p_M_eliminate_J217
        refine df (by decide) ⟨n + 1, l_m233 hn v1 v2 (fun Y hY => ?_) n 1 _ (by omega) (by omega) (fun j => by rw [if_neg (by omega)])⟩
        refine s_find (v := cV t) hbt2.2.2.1 hF2 (fun j a b => (hbt2.2.2.2 j a b).1) (fun gg hgg => ?_)
        rw [← heq.1]
        refine hk _ _ _ _ _ _ _ _ _ _ _ _ _ _ _ _ _ _ _ _ _ _ _ _ _ ⟨t.1, g, e2, hbt2.2.2.1, hg, by rw [heq.1], rfl, rfl, by rw [heq.1], rfl, rfl, fun k a b => ?_, hF2, hN2 gg hgg, fun k a b => (hbt2.2.2.2 k a b).2⟩
        have c := heq.2 k a (by rw [heq.1]; exact b)
        refine ⟨c.1, c.2.1, c.2.2.1, c.2.2.2.1, c.2.2.2.2.1, c.2.2.2.2.2.1, ?_, (hbt2.2.2.2 k a b).1⟩
        rw [hX k, hY k, c.2.2.2.2.1, c.2.2.2.2.2.1, c.2.2.2.2.2.2]
      · rw [ht] at ht'; cases ht'
    · -- no room
      rw [hs] at heq hbs2
      obtain ⟨t, ht⟩ : ∃ t, elI v n n (n, mb, ml, mr, mv, mp, mn, mx) = (false, t) := pr_of heq.1
      rw [ht] at hbt2
      have hbt2 : BH n (n, mb, ml, mr, mv, mp, mn, mx) t := hbt2
      have hbs2 : BH n (n, cb, cl, cr, cv, cp, cn, cx) s := hbs2
      unfold p_M_eliminate
      refine s_in (fun _ => df (by decide) ?_) (fun q => absurd h q)
      have m30 := l_m30 (n := n) (v := v) (g := nI g) v1 v2 n (n, mb, ml, mr, mv, mp, mn, mx) (Nat.le_refl _) hbt (kk := fun x a b c1 c2 c3 c4 c5 c6 c7 => p_M_eliminate_J217 (fun r' x y z g1 g2 g3 g4 g5 g6 g7 g8 => K (-3) (nI n) (nI g) (nI e) (nI s.1) (nI g) (cB s) (cL s) (cR s) (cV s) (cP s) (cN s) (cX s) cD r' x y z g1 g2 g3 g4 g5 g6 g7 g8) (bv v) (nI n) x a b (endOf e) c1 c2 c3 c4 c5 c6 c7 mD) (fun t' ht' => ?_) (fun t' ht' => ?_)
      · rw [show n + 1 - n = 1 by omega] at m30
        exact ⟨n + 1, m30⟩
      · rw [ht] at ht'; cases ht'
      · rw [ht] at ht'
        cases ht'
        unfold p_M_eliminate_J217
        refine dt rfl (hk _ _ _ _ _ _ _ _ _ _ _ _ _ _ _ _ _ _ _ _ _ _ _ _ _ ⟨n, g, e, hn, hg, rfl, rfl, rfl, rfl, rfl, rfl, fun k a b => ?_, hF.cong (fun i a b => ⟨(hbt2.2.1 i a b).2.2.2.2.1, (hbt2.2.1 i a b).2.2.2.2.2.1⟩), ?_, fun k a b => (hbt2.2.2.2 k a (by have := hbt2.1; omega)).2⟩)
        · obtain ⟨h1, h2, h3, h4, h5, h6, h7, -⟩ := hE k a b
          have c1 := hbs2.2.1 k a b
          have c2 := hbt2.2.1 k a b
          have c3 : same s t k := (c1.tr ⟨h1, h2, h3, h4, h5, h6, h7⟩).tr c2.sy
          exact ⟨c3.1, c3.2.1, c3.2.2.1, c3.2.2.2.1, c3.2.2.2.2.1, c3.2.2.2.2.2.1, c3.2.2.2.2.2.2, (hbt2.2.2.2 k a (by have := hbt2.1; omega)).1⟩
        · obtain ⟨n1, n2, n3, n4, n5, n6⟩ := hN
          refine ⟨n1, n2, n3, n4, n5, fun i a b c d => ?_⟩
          have c2 := hbt2.2.1 i a (by have := hF.le; omega)
          rw [c2.1] at d
          rw [c2.2.1, c2.2.2.1]
          exact n6 i a b c d
  · unfold p_M_eliminate
    exact s_in (fun q => absurd q h) (fun _ => dt rfl (hk _ _ _ _ _ _ _ _ _ _ _ _ _ _ _ _ _ _ _ _ _ _ _ _ _ hr0))

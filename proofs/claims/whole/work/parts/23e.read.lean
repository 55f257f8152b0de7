/-! PURE: read() -/
section PS
variable {n : Nat} {tb mb : FF} {n0 : Nat} {t0 : CS}
theorem rpq_eq {s t : CS} (h : EQs s t) {i j v : Nat} (hi1 : 1 ≤ i) (hi : i ≤ s.1) (hj1 : 1 ≤ j) (hj : j ≤ s.1) : rp s i j v = rp t i j v ∧ rq s i j v = rq t i j v := (wants_eq h hi1 hi hj1 hj).2
theorem st7 {c w : Int32} {p at' to : Nat} (hn : n ≤ 2000) (hL : Lx n tb mb p c at' to w) (nx : c ≠ -1 → NX n tb mb n0 t0 to) : J7 n tb mb n0 t0 c at' to w := by
  intro s t g l r hO hr l1 l2 r1 r2
  obtain ⟨ok, -, hto, hat, -, -, -⟩ := hL
  have hs1 : s.1 = t.1 := hO.1.1
  have hm : t.1 ≤ 200 := by omega
  obtain ⟨el, er⟩ : cP s l = cP t l ∧ cN s r = cN t r := ⟨(hO.1.2 l l1 (by omega)).2.2.2.2.1, (hO.1.2 r r1 (by omega)).2.2.2.2.2.1⟩
  by_cases c2 : c = -2
  · have c1 : c ≠ -1 := by rw [c2]; decide
    have hm1 : ms c = 1 := (ms_1 ok).mpr c2
    by_cases hw : inR w 1 10
    · obtain ⟨v0, v1, v2, hv⟩ := inR_nat (a := 1) (b := 10) hw (by decide) (by decide)
      have epq := rpq_eq (v := v0) hO.1 l1 (by omega) r1 (by omega)
      by_cases hp : bt (cP t l) v0 = true ∧ bt (cN t r) v0 = true
      · have ep := rp_m (s := t) (i := l) (j := r) v1 v2 (hO.2.1.2.2.2 r r1 r2).2 hp.2
        have eq := rq_m (s := t) (i := l) (j := r) v1 v2 (hO.2.1.2.2.2 l l1 l2).2 hp.1
        -- what the reference does up to its fifth check
        have mgo : ∀ {k99 : K15} {F : Nat} {wo : Int32}, wo = nI v0 → ((¬ rp t l r v0 &&& rq t l r v0 = 0 → p_M_readResolvent_J204 (nI n) mb (p_M_read_L42 (nI n) mb k99 F) (nI l) (nI r) (rp t l r v0) (rq t l r v0) 0 (nI t.1) (nI g) (nI at') (nI to) (ms c) wo 0 (-1) (cP t) (cN t) (cB t) (cL t) (cR t) (cV t) (cX t)) ∧ (rp t l r v0 &&& rq t l r v0 = 0 → p_M_readResolvent_J204 (nI n) mb (p_M_read_L42 (nI n) mb k99 F) (nI l) (nI r) (rp t l r v0) (rq t l r v0) 1 (nI t.1) (nI g) (nI at') (nI to) (ms c) wo 0 (-1) (cP t) (cN t) (cB t) (cL t) (cR t) (cV t) (cX t))) → MT7 n mb k99 F (nI l) (nI r) (nI at') (nI to) (ms c) wo 0 (-1) t g := fun {k99 F wo} hwo h => by
          subst hwo
          have ecl : (nI l).toNatClampNeg = l := n_cl
          have ecr : (nI r).toNatClampNeg = r := n_cl
          unfold MT7 p_M_readResolvent_J69 p_M_readResolvent_J99 p_M_readResolvent_J144
          refine dt hm1 (need1 (cf (by decide) (cf (n_nlt (b := 1) v1) (cf (n_nlt (a := 10) v2) (need1 (df (by decide) (fun v3 e3 => ⟨n_in (by omega), ?_⟩)))))))
          subst e3
          rw [ecl, ecr]
          refine cf ((bv_and' v1 v2).mpr hp.1) ⟨n_in (by omega), cf ((bv_and' v1 v2).mpr hp.2) (need1 (df (by decide) ⟨n_in (by omega), n_in (by omega), fun v4 e4 v5 e5 => ?_⟩))⟩
          have e4 : v4 = rp t l r v0 := e4.trans ep
          have e5 : v5 = rq t l r v0 := e5.trans eq
          subst e4; subst e5
          exact h
        by_cases hb : rp t l r v0 &&& rq t l r v0 = 0
        · obtain ⟨c', a', t', w', hL', hJ⟩ := nx c1
          obtain ⟨kd, pl, s', t2, g', h1, h2, h3, h4⟩ := hJ.2.2.2.2.2.2.2.2 s t g l r v0 hO hr l1 l2 r1 r2 v1 v2 hb
          refine ⟨kd, pl, s', t2, g', h1, h2, fun b P N v k F x num hk hF hx hnum => tt7 ?_, fun k99 F wo hk hF hwo => mgo ((hwo c2).trans hv) (dt hb ?_)⟩
          · have e := hnum c2
            have key := c_adv (num := num) hn hL' c1 (hat c1) hto (h3 b P N) hk hF hx
            subst c2
            subst e; subst hv
            refine tn7 ?_
            unfold p_R_takePivot
            refine s_isVar (fun _ => df (by decide) (s_resolves (s := s) v1 v2 (by omega) (by omega) (fun _ _ => df (by decide) (s_clashes (s := s) (by omega) (by omega) (fun _ => ct rfl key) (fun q => absurd (by rw [epq.1, epq.2]; exact hb) q))) (fun q => absurd (by rw [el, er]; exact hp) q))) (fun q => absurd hw q)
          · unfold p_M_readResolvent_J204
            refine need1 (df (by decide) (hL'.2.2.2.2.2.2 _ _ _ _ (fun wo2 hwo2 => ?_)))
            have key := h4 k99 F wo2 hk (hF.next c1 hto hL') hwo2
            rw [(hwo c2).trans hv]
            exact key
        · refine ⟨5, nI at', s, t, g, Or.inr (by decide), hO, fun b P N v k F x num hk hF hx hnum => tt7 ?_, fun k99 F wo hk hF hwo => mgo ((hwo c2).trans hv) (df hb ?_)⟩
          · have e := hnum c2
            have key : ∀ {y a b c d e f h i j l m : Int32}, p_R_readText_L35 (nI n) tb k F y (nI s.1) (nI g) (cB s) (cL s) (cR s) (cV s) (cP s) (cN s) (cX s) 5 (nI at') a b c d e f h i j l m := c_flt hk hF.1 (by decide)
            subst c2
            subst e; subst hv
            refine tn7 ?_
            unfold p_R_takePivot p_R_fail
            refine s_isVar (fun _ => df (by decide) (s_resolves (s := s) v1 v2 (by omega) (by omega) (fun _ _ => df (by decide) (s_clashes (s := s) (by omega) (by omega) (fun q => absurd (by rw [← epq.1, ← epq.2]; exact q) hb) (fun _ => cf (by decide) key))) (fun q => absurd (by rw [el, er]; exact hp) q))) (fun q => absurd hw q)
          · unfold p_M_readResolvent_J204
            exact need0 (by decide) (dt rfl (m_flt hk hF.1 (by decide)))
      · refine ⟨4, nI at', s, t, g, Or.inr (by decide), hO, fun b P N v k F x num hk hF hx hnum => tt7 ?_, fun k99 F wo hk hF hwo => ?_⟩
        · have e := hnum c2
          have key : ∀ {y a b c d e f h i j l m : Int32}, p_R_readText_L35 (nI n) tb k F y (nI s.1) (nI g) (cB s) (cL s) (cR s) (cV s) (cP s) (cN s) (cX s) 4 (nI at') a b c d e f h i j l m := c_flt hk hF.1 (by decide)
          subst c2
          subst e; subst hv
          refine tn7 ?_
          unfold p_R_takePivot p_R_fail
          exact s_isVar (fun _ => df (by decide) (s_resolves (s := s) v1 v2 (by omega) (by omega) (fun a b => absurd ⟨by rw [← el]; exact a, by rw [← er]; exact b⟩ hp) (fun _ => dt rfl key))) (fun q => absurd hw q)
        · have e := (hwo c2).trans hv
          subst e
          have ecl : (nI l).toNatClampNeg = l := n_cl
          have ecr : (nI r).toNatClampNeg = r := n_cl
          have fl : ∀ {x3 : Int32}, p_M_readResolvent_J143 (nI n) mb (p_M_read_L42 (nI n) mb k99 F) (nI l) (nI r) x3 (nI t.1) (nI g) (nI at') (nI to) (ms c) (nI v0) 0 (-1) (cP t) (cN t) (cB t) (cL t) (cR t) (cV t) (cX t) := by
            intro x3
            unfold p_M_readResolvent_J143 p_M_readResolvent_J144
            exact need0 (by decide) (dt rfl (m_flt hk hF.1 (by decide)))
          unfold MT7 p_M_readResolvent_J69 p_M_readResolvent_J99
          refine dt hm1 (need1 (cf (by decide) (cf (n_nlt (b := 1) v1) (cf (n_nlt (a := 10) v2) (need1 (df (by decide) (fun v3 e3 => ⟨n_in (by omega), ?_⟩)))))))
          subst e3
          rw [ecl, ecr]
          exact ⟨fun _ => fl, fun q => ⟨n_in (by omega), fun _ => fl, fun q2 => absurd ⟨(bv_and' v1 v2).mp q, (bv_and' v1 v2).mp q2⟩ hp⟩⟩
    · refine ⟨2, nI at', s, t, g, Or.inr (by decide), hO, fun b P N v k F x num hk hF hx hnum => tt7 ?_, fun k99 F wo hk hF hwo => ?_⟩
      · have e := hnum c2
        have key : ∀ {y a b c d e f h i j l m : Int32}, p_R_readText_L35 (nI n) tb k F y (nI s.1) (nI g) (cB s) (cL s) (cR s) (cV s) (cP s) (cN s) (cX s) 2 (nI at') a b c d e f h i j l m := c_flt hk hF.1 (by decide)
        subst c2
        subst e
        refine tn7 ?_
        unfold p_R_takePivot p_R_fail
        exact s_isVar (fun q => absurd q hw) (fun _ => dt rfl key)
      · have e := hwo c2
        subst e
        have fl : p_M_readResolvent_J98 (nI n) mb (p_M_read_L42 (nI n) mb k99 F) (nI l) (nI r) (nI t.1) (nI g) (nI at') (nI to) (ms c) wo 0 (-1) (cP t) (cN t) (cB t) (cL t) (cR t) (cV t) (cX t) := by
          unfold p_M_readResolvent_J98 p_M_readResolvent_J99
          exact need0 (by decide) (dt rfl (m_flt hk hF.1 (by decide)))
        unfold MT7 p_M_readResolvent_J69
        exact dt hm1 (need1 (cf (by decide) ⟨fun _ => fl, fun q => ⟨fun _ => fl, fun q2 => absurd ⟨q, q2⟩ hw⟩⟩))
  · refine ⟨1, nI at', s, t, g, Or.inr (by decide), hO, fun b P N v k F x num hk hF hx hnum => tt7 (tnF c2 (c_flt hk hF.1 (by decide))), fun k99 F wo hk hF hwo => ?_⟩
    unfold MT7 p_M_readResolvent_J69
    exact df (fun h => c2 ((ms_1 ok).mp h)) (need0 (by decide) (ct rfl (m_flt hk hF.1 (by decide))))
theorem st8 {c w : Int32} {p at' to : Nat} (hn : n ≤ 2000) (hL : Lx n tb mb p c at' to w) (nx : c ≠ -1 → NX n tb mb n0 t0 to) : J8 n tb mb n0 t0 c at' to w := by
  intro s t g l r v hO hr l1 l2 r1 r2 v1 v2 hb
  obtain ⟨ok, -, hto, hat, -, -, -⟩ := hL
  have hs1 : s.1 = t.1 := hO.1.1
  by_cases c4 : c = 59
  · have c1 : c ≠ -1 := by rw [c4]; decide
    obtain ⟨c', a', t', w', hL', hJ⟩ := nx c1
    have epq := rpq_eq (v := v) hO.1 l1 (by omega) r1 (by omega)
    have hO2 : OKs n0 t0 (addS s (rp t l r v) (rq t l r v) 0 (nI l) (nI r) (nI v)) (addS t (rp t l r v) (rq t l r v) 0 (nI l) (nI r) (nI v)) g := ⟨add_eq hO.1, hO.2.1.addS hr (Or.inr ⟨rfl, l, r, v, l1, by omega, r1, by omega, v1, v2, rfl, rfl, rfl⟩) hb, hO.2.2⟩
    obtain ⟨kd, pl, s', t2, g', h1, h2, h3, h4⟩ := hJ.1 _ _ g hO2
    refine ⟨kd, pl, s', t2, g', h1, h2, fun b P N k F x num hk hF hx hnum => tt8 ?_, fun k99 F wo hk hF hwo => ?_⟩
    · unfold p_R_takeClose
      refine dt c4 (s_draftRes (by omega) l1 (by omega) r1 (by omega) (fun u hu => ?_))
      rw [epq.1, epq.2] at hu
      subst hu
      exact c_adv hn hL' c1 (hat c1) hto (h3 b P N (nI l) (nI r) (nI v)) hk hF hx
    · unfold MT8
      refine takes1 ((ms_59 ok).mpr c4) hL' (fun wo2 hwo2 => cf (by decide) (s_madd (by omega) (fun u hu => ?_)))
      subst hu
      rw [if_pos (by decide)]
      exact h4 k99 F wo2 hk (hF.next c1 hto hL') hwo2
  · refine ⟨1, nI at', s, t, g, Or.inr (by decide), hO, fun b P N k F x num hk hF hx hnum => tt8 ?_, fun k99 F wo hk hF hwo => ?_⟩
    · unfold p_R_takeClose p_R_fail
      exact df c4 (c_flt hk hF.1 (by decide))
    · unfold MT8
      exact takes0 (fun h => c4 ((ms_59 ok).mp h)) (ct rfl (m_flt hk hF.1 (by decide)))
theorem stA {c w : Int32} {p at' to : Nat} (hn : n ≤ 2000) (hL : Lx n tb mb p c at' to w) (nx : c ≠ -1 → NX n tb mb n0 t0 to) : JA n tb mb n0 t0 c at' to w :=
  ⟨st0 hn hL nx, st1 hn hL nx, st2 hn hL nx, st3 hn hL nx, st4 hn hL nx, st5 hn hL nx, st6 hn hL nx, st7 hn hL nx, st8 hn hL nx⟩
theorem parse (hn : n ≤ 2000) (hB : ∀ j, j < n → tb j = mb j ∧ isB (mb j)) : ∀ (m : Nat) (c w : Int32) (p at' to : Nat), Lx n tb mb p c at' to w → (c = -1 ∨ n - to < m) → JA n tb mb n0 t0 c at' to w
  | 0, c, w, p, at', to, hL, hm => stA hn hL (fun h => absurd (hm.resolve_left h) (Nat.not_lt_zero _))
  | m + 1, c, w, p, at', to, hL, hm => stA hn hL (fun h => by
      obtain ⟨c', a', t', w', hL'⟩ := lex hn hB hL.2.2.1
      refine ⟨c', a', t', w', hL', parse hn hB m c' w' to a' t' hL' ?_⟩
      by_cases q : c' = -1
      · exact Or.inl q
      · have h1 := hL'.2.2.2.1 q
        have h2 := hL'.2.1
        have h3 := hL'.2.2.1
        have h4 := hm.resolve_left h
        exact Or.inr (by omega))
end PS
theorem s_read {tl mt csz cgv cem mcl mgv mend ma mso mwo tp num b ps ng l r v : Int32} {tb mtb cb cl cr cv cp cn cx cD mb ml mr mv mp mn mx mD : Nat → Int32}
    {K : Int32 → Int32 → Int32 → Int32 → Int32 → Int32 → Int32 → FF → FF → FF → FF → FF → FF → FF → FF → Int32 → Int32 → Int32 → Int32 → Int32 → Int32 → Int32 → Int32 → Int32 → Int32 → Int32 → Int32 → Int32 → Int32 → Int32 → Int32 → Int32 → Int32 → Int32 → Int32 → Int32 → Int32 → Int32 → Int32 → Int32 → FF → FF → FF → FF → FF → FF → FF → FF → Prop}
    (hT : RT tl tb mt mtb) (hr : RCL csz cgv cem cb cl cr cv cp cn cx cD mcl mgv mend mb ml mr mv mp mn mx mD)
    (hk : ∀ ret a b c d e cb cl cr cv cp cn cx cD kd pl j1 j2 j3 j4 j5 j6 j7 j8 j9 j10 j11 x y z i1 i2 i3 i4 i5 mp mn mb ml mr mv mx mD, RCL a b c cb cl cr cv cp cn cx cD x y z mb ml mr mv mp mn mx mD → K ret 0 a b c d e cb cl cr cv cp cn cx cD kd pl j1 j2 j3 j4 j5 j6 j7 j8 j9 j10 j11 ret x y z 0 i1 i2 i3 i4 i5 kd pl mp mn mb ml mr mv mx mD) :
    p_B_read tl tb csz cgv cem cb cl cr cv cp cn cx cD tp num b ps ng l r v (fun ret z a b c d e f1 f2 f3 f4 f5 f6 f7 f8 kd pl j1 j2 j3 j4 j5 j6 j7 j8 j9 j10 j11 => p_M_read mcl mgv mend mt ma mso mwo mp mn mb ml mr mv mx mD mtb (fun r' x y z' i0 i1 i2 i3 i4 i5 k1 k2 g1 g2 g3 g4 g5 g6 g7 g8 => K ret z a b c d e f1 f2 f3 f4 f5 f6 f7 f8 kd pl j1 j2 j3 j4 j5 j6 j7 j8 j9 j10 j11 r' x y z' i0 i1 i2 i3 i4 i5 k1 k2 g1 g2 g3 g4 g5 g6 g7 g8)) := by
  obtain ⟨n, hn, rfl, rfl, hB⟩ := hT
  obtain ⟨m, g, e, hm, hg, rfl, rfl, rfl, rfl, rfl, rfl, hE, hF, hN, hJ⟩ := hr
  have hst := hE.st
  have hgt : GS (m, mb, ml, mr, mv, mp, mn, mx) := ⟨hm, fun k a b => ⟨hE.okm k a b, hJ k a b⟩⟩
  have hO : OKs m (m, mb, ml, mr, mv, mp, mn, mx) (m, cb, cl, cr, cv, cp, cn, cx) (m, mb, ml, mr, mv, mp, mn, mx) g := ⟨hst, ⟨Nat.le_refl _, fun k _ _ => same.rf, hgt⟩, hg⟩
  obtain ⟨c, at', to, w, hL⟩ := lex hn hB (Nat.zero_le n)
  have hP := parse (n0 := m) (t0 := (m, mb, ml, mr, mv, mp, mn, mx)) hn hB (n + 1) c w 0 at' to hL (Or.inr (by omega))
  obtain ⟨kd, pl, s, t, g', h1, h2, h3, h4⟩ := hP.1 _ _ g hO
  have hn8 : m ≤ t.1 := h2.2.1.1
  have hFt : FE m e (cP t) (cN t) := hF.cong (fun i a b => ⟨(h2.2.1.2.1 i a b).2.2.2.2.1, (h2.2.1.2.1 i a b).2.2.2.2.2.1⟩)
  -- the reference, from its start to its last join
  have mgo : ∀ {k : Int32 → Int32 → Int32 → Int32 → Int32 → Int32 → Int32 → Int32 → Int32 → Int32 → Int32 → Int32 → FF → FF → FF → FF → FF → FF → FF → FF → Prop}, (∀ a b c d, p_M_read_J99 k (nI m) (nI g) (nI t.1) (nI g') (endOf e) 0 (nI n) a b c d kd pl (cP t) (cN t) (cB t) (cL t) (cR t) (cV t) (cX t) mD) → p_M_read (nI m) (nI g) (endOf e) (nI n) ma mso mwo mp mn mb ml mr mv mx mD mtb k := fun {k} h => by
    unfold p_M_read
    refine hL.2.2.2.2.2.2 _ _ _ _ (fun wo hwo => ⟨n + 2, ?_⟩)
    exact h4 _ (n + 2) wo h ⟨by omega, Or.inr (by omega)⟩ hwo
  unfold p_B_read p_R_readText p_C_startDraft
  refine ⟨(n + 3) + 1, ?_⟩
  unfold p_R_readText_L35
  refine cf (by decide) (dt rfl (cf (by decide) (hL.2.2.2.2.2.1 _ _ (fun num' hnum => ?_))))
  refine h3 b ps ng l r v _ (n + 3) 0 num' ?_ ⟨by omega, Or.inr (by omega)⟩ (Nat.zero_le _) hnum
  intro j1 j2 j3 j4 j5 j6 j7 j8 j9 j10 j11
  by_cases hz : kd = 0
  · refine dt hz (s_keep h2.1 h2.2.1.2.2 hFt hn8 (fun e2 D2 hF2 hN2 => mgo (fun a1 a2 a3 a4 => ?_)))
    unfold p_M_read_J99
    refine ct (by rw [hz]; decide) (s_find (v := cV t) h2.2.1.2.2.1 hF2 (fun j a b => (h2.2.1.2.2.2 j a b).1) (fun gg hgg => ?_))
    rw [← h2.1.1]
    refine hk _ _ _ _ _ _ _ _ _ _ _ _ _ _ _ _ _ _ _ _ _ _ _ _ _ _ _ _ _ _ _ _ _ _ _ _ _ _ _ _ _ _ _ ⟨t.1, g', e2, h2.2.1.2.2.1, h2.2.2, by rw [h2.1.1], rfl, rfl, by rw [h2.1.1], rfl, rfl, fun k a b => ?_, hF2, hN2 gg hgg, fun k a b => (h2.2.1.2.2.2 k a b).2⟩
    have c := h2.1.2 k a (by rw [h2.1.1]; exact b)
    exact ⟨c.1, c.2.1, c.2.2.1, c.2.2.2.1, c.2.2.2.2.1, c.2.2.2.2.2.1, c.2.2.2.2.2.2, (h2.2.1.2.2.2 k a b).1⟩
  · refine df hz (mgo (fun a1 a2 a3 a4 => ?_))
    unfold p_M_read_J99
    refine cf (h1.resolve_left hz) (hk _ _ _ _ _ _ _ _ _ _ _ _ _ _ _ _ _ _ _ _ _ _ _ _ _ _ _ _ _ _ _ _ _ _ _ _ _ _ _ _ _ _ _ ⟨m, g, e, hm, hg, rfl, rfl, rfl, rfl, rfl, rfl, fun k a b => ?_, hFt, ?_, fun k a b => (h2.2.1.2.2.2 k a (by omega)).2⟩)
    · have c := h2.1.2 k a (by rw [h2.1.1]; omega)
      exact ⟨c.1, c.2.1, c.2.2.1, c.2.2.2.1, c.2.2.2.2.1, c.2.2.2.2.2.1, c.2.2.2.2.2.2, (h2.2.1.2.2.2 k a (by omega)).1⟩
    · obtain ⟨n1, n2, n3, n4, n5, n6⟩ := hN
      refine ⟨n1, n2, n3, n4, n5, fun i a b c d => ?_⟩
      have c2 := h2.2.1.2.1 i a (by have := hF.le; omega)
      rw [c2.1] at d
      rw [c2.2.1, c2.2.2.1]
      exact n6 i a b c d

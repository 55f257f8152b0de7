/-! PURE: reading, states 3 to 8, and read() -/
theorem or_dist3 (x y z : Int32) : x &&& (y ||| z) = (x &&& y) ||| (x &&& z) := by
  rw [and_comm32, and_or_d, and_comm32 y, and_comm32 z]
theorem disj_add {P N x : Int32} (h : (P ||| N) &&& x = 0) (hd : P &&& N = 0) : (P ||| x) &&& N = 0 ∧ P &&& (N ||| x) = 0 := by
  rw [and_or_d] at h
  have h2 := or_zero.mp h
  constructor
  · rw [and_or_d, hd, and_comm32 x, h2.2]; rfl
  · rw [or_dist3, hd, h2.1]; rfl
theorem s_draftG {s : CS} {g : Nat} {b P N : Int32} {k : Int32 → Int32 → FF → FF → FF → FF → FF → FF → FF → Prop} (hm : s.1 < 200) (hg : g < 60) (hk : ∀ t : CS, t = addS s P N b 0 0 0 → k (nI t.1) (nI (g + 1)) (cB t) (cL t) (cR t) (cV t) (cP t) (cN t) (cX t)) : p_C_draftGiven (nI s.1) (nI g) (cB s) (cL s) (cR s) (cV s) (cP s) (cN s) (cX s) b P N k := by
  unfold p_C_draftGiven
  refine s_roomG (by omega) (by omega) (fun _ _ => cf (by decide) ?_) (fun q => absurd ⟨hm, hg⟩ q)
  unfold p_C_draft
  have e1 : (nI (s.1 + 1)).toNatClampNeg = s.1 + 1 := n_cl
  rw [n_p1, e1]
  refine ⟨n_in (by omega), n_in (by omega), ?_⟩
  rw [e1, n_p1]
  exact hk _ rfl
theorem BH.addS {n0 : Nat} {t0 t : CS} {p q b l r v : Int32} (h : BH n0 t0 t) (hm : t.1 < 200) (ho : OKc (fun _ => b) (fun _ => l) (fun _ => r) (fun _ => v) (t.1 + 1)) (hd : p &&& q = 0) : BH n0 t0 (addS t p q b l r v) :=
  ⟨by show n0 ≤ t.1 + 1; have := h.1; omega, fun k k1 k2 => (add_old (by have := h.1; omega)).tr (h.2.1 k k1 k2), h.2.2.add hm ho hd⟩
section PS
variable {n : Nat} {tb mb : FF} {n0 : Nat} {t0 : CS}
/-! a literal's number -/
theorem c_lit {st kd pl tp num ps ng : Int32} {v : Nat} {k : Int32 → Int32 → Int32 → Int32 → Int32 → Prop} (hv1 : 1 ≤ v) (hv2 : v ≤ 10) (hnum : num = nI v) (h3 : ¬ (ps ||| ng) &&& bv v = 0 → k 3 tp 3 ps ng) (h4 : (ps ||| ng) &&& bv v = 0 → st = 4 → k kd pl 3 ps (ng ||| bv v)) (h5 : (ps ||| ng) &&& bv v = 0 → ¬ st = 4 → k kd pl 3 (ps ||| bv v) ng) : p_R_takeLiteral kd pl tp num st ps ng k := by
  subst hnum
  unfold p_R_takeLiteral p_R_fail p_B_bitOf
  refine s_isVar (fun _ => df (by decide) ?_) (fun q => absurd ⟨n_nlt (b := 1) hv1, n_nlt (a := 10) hv2⟩ q)
  exact ⟨fun q => ⟨fun q2 => h5 q q2, fun q2 => h4 q q2⟩, fun q => h3 q⟩
theorem c_litF {st kd pl tp num ps ng : Int32} {k : Int32 → Int32 → Int32 → Int32 → Int32 → Prop} (hv : ¬ inR num 1 10) (h : k 2 tp st ps ng) : p_R_takeLiteral kd pl tp num st ps ng k := by
  unfold p_R_takeLiteral p_R_fail
  exact s_isVar (fun q => absurd q hv) (fun _ => dt rfl h)
section ML
variable {k99 : K15} {F F3 : Nat} {is c : Int32} {at' to : Nat} {wo b P N : Int32} {t : CS} {g : Nat}
theorem m_litS (hc : ¬ ms c = 1) (h : p_M_read_L42 (nI n) mb k99 F (nI t.1) (nI g) (nI at') (nI to) (ms c) wo 1 (nI at') (cP t) (cN t) (cB t) (cL t) (cR t) (cV t) (cX t)) : MT4 n mb k99 F F3 is c at' to wo b P N t g := by
  unfold MT4 p_M_readGiven_J155 p_M_readGiven_J169
  exact df hc (need0 (by decide) (ct rfl h))
theorem m_litR (hc : ms c = 1) (hw : ¬ inR wo 1 10) (h : p_M_read_L42 (nI n) mb k99 F (nI t.1) (nI g) (nI at') (nI to) (ms c) wo 2 (nI at') (cP t) (cN t) (cB t) (cL t) (cR t) (cV t) (cX t)) : MT4 n mb k99 F F3 is c at' to wo b P N t g := by
  unfold MT4 p_M_readGiven_J155 p_M_readGiven_J169 p_M_readGiven_J198 p_M_readGiven_J199
  exact dt hc (need1 (cf (by decide) ⟨fun _ => need0 (by decide) (dt rfl h), fun q => ⟨fun _ => need0 (by decide) (dt rfl h), fun q2 => absurd ⟨q, q2⟩ hw⟩⟩))
theorem m_litT {v : Nat} (hc : ms c = 1) (hw : wo = nI v) (hv1 : 1 ≤ v) (hv2 : v ≤ 10) (ht : ¬ (P ||| N) &&& bv v = 0) (h : p_M_read_L42 (nI n) mb k99 F (nI t.1) (nI g) (nI at') (nI to) (ms c) wo 3 (nI at') (cP t) (cN t) (cB t) (cL t) (cR t) (cV t) (cX t)) : MT4 n mb k99 F F3 is c at' to wo b P N t g := by
  subst hw
  unfold MT4 p_M_readGiven_J155 p_M_readGiven_J169 p_M_readGiven_J199 p_M_readGiven_J232
  refine dt hc (need1 (cf (by decide) (cf (n_nlt (b := 1) hv1) (cf (n_nlt (a := 10) hv2) (need1 (df (by decide) (fun v5 e5 => ?_)))))))
  subst e5
  exact df ht (need0 (by decide) (dt rfl h))
theorem m_litK {v : Nat} {c' w' : Int32} {a' t' : Nat} (hc : ms c = 1) (hw : wo = nI v) (hv1 : 1 ≤ v) (hv2 : v ≤ 10) (ht : (P ||| N) &&& bv v = 0) (hL : Lx n tb mb to c' a' t' w') (h1 : ¬ is = 0 → ∀ wo2, (c' = -2 → wo2 = w') → MT3 n mb k99 F F3 c' a' t' wo2 b P (N ||| bv v) t g) (h0 : is = 0 → ∀ wo2, (c' = -2 → wo2 = w') → MT3 n mb k99 F F3 c' a' t' wo2 b (P ||| bv v) N t g) : MT4 n mb k99 F F3 is c at' to wo b P N t g := by
  subst hw
  unfold MT4 p_M_readGiven_J155 p_M_readGiven_J169 p_M_readGiven_J199 p_M_readGiven_J232
  refine dt hc (need1 (cf (by decide) (cf (n_nlt (b := 1) hv1) (cf (n_nlt (a := 10) hv2) (need1 (df (by decide) (fun v5 e5 => ?_)))))))
  subst e5
  exact dt ht (need1 (df (by decide) ⟨fun q => hL.2.2.2.2.2.2 _ _ _ _ (h0 q), fun q => hL.2.2.2.2.2.2 _ _ _ _ (h1 q)⟩))
end ML
theorem st4 {c w : Int32} {p at' to : Nat} (hn : n ≤ 2000) (hL : Lx n tb mb p c at' to w) (nx : c ≠ -1 → NX n tb mb n0 t0 to) : J4 n tb mb n0 t0 c at' to w := by
  intro s t g b P N hO hr hg b1 b2 hd
  obtain ⟨ok, -, hto, hat, -, -, -⟩ := hL
  by_cases c2 : c = -2
  · have c1 : c ≠ -1 := by rw [c2]; decide
    have hm1 : ms c = 1 := (ms_1 ok).mpr c2
    by_cases hw : inR w 1 10
    · obtain ⟨v0, v1, v2, hv⟩ := inR_nat (a := 1) (b := 10) hw (by decide) (by decide)
      by_cases hq : (P ||| N) &&& bv v0 = 0
      · obtain ⟨c', a', t', w', hL', hJ⟩ := nx c1
        obtain ⟨kd, pl, s', t2, g', h1, h2, h3, h4⟩ := hJ.2.2.2.1 s t g b P (N ||| bv v0) hO hr hg b1 b2 (disj_add hq hd).2
        refine ⟨kd, pl, s', t2, g', h1, h2, fun l r v k F x num hk hF hx hnum => tt4 ?_, fun k99 F F3 wo hk hF hF3 hwo => ?_⟩
        · have e := hnum c2
          have key := c_adv (num := num) hn hL' c1 (hat c1) hto (h3 l r v) hk hF hx
          subst c2
          exact tn4 (c_lit v1 v2 (e.trans hv) (fun q => absurd hq q) (fun _ _ => key) (fun _ q => absurd rfl q))
        · exact m_litK hm1 ((hwo c2).trans hv) v1 v2 hq hL' (fun _ wo2 hwo2 => h4 k99 F F3 wo2 hk (hF.next c1 hto hL') (hF3.next c1 hto hL') hwo2) (fun q => absurd q (by decide))
      · refine ⟨3, nI at', s, t, g, Or.inr (by decide), hO, fun l r v k F x num hk hF hx hnum => tt4 ?_, fun k99 F F3 wo hk hF hF3 hwo => m_litT hm1 ((hwo c2).trans hv) v1 v2 hq (m_flt hk hF.1 (by decide))⟩
        have e := hnum c2
        have key : ∀ {y a b c d e f h i j l m : Int32}, p_R_readText_L35 (nI n) tb k F y (nI s.1) (nI g) (cB s) (cL s) (cR s) (cV s) (cP s) (cN s) (cX s) 3 (nI at') a b c d e f h i j l m := c_flt hk hF.1 (by decide)
        subst c2
        exact tn4 (c_lit v1 v2 (e.trans hv) (fun _ => key) (fun q => absurd q hq) (fun q => absurd q hq))
    · refine ⟨2, nI at', s, t, g, Or.inr (by decide), hO, fun l r v k F x num hk hF hx hnum => tt4 ?_, fun k99 F F3 wo hk hF hF3 hwo => m_litR hm1 (by rw [hwo c2]; exact hw) (m_flt hk hF.1 (by decide))⟩
      have e := hnum c2
      have key : ∀ {y a b c d e f h i j l m : Int32}, p_R_readText_L35 (nI n) tb k F y (nI s.1) (nI g) (cB s) (cL s) (cR s) (cV s) (cP s) (cN s) (cX s) 2 (nI at') a b c d e f h i j l m := c_flt hk hF.1 (by decide)
      subst c2
      exact tn4 (c_litF (by rw [e]; exact hw) key)
  · exact ⟨1, nI at', s, t, g, Or.inr (by decide), hO, fun l r v k F x num hk hF hx hnum => tt4 (tnF c2 (c_flt hk hF.1 (by decide))), fun k99 F F3 wo hk hF hF3 hwo => m_litS (fun h => c2 ((ms_1 ok).mp h)) (m_flt hk hF.1 (by decide))⟩
theorem m_113 {k99 : K15} {F F3 : Nat} {c : Int32} {at' to : Nat} {wo b P N : Int32} {t : CS} {g : Nat} (h1 : ms c = 1) (h : MT4 n mb k99 F F3 0 c at' to wo b P N t g) : MT3 n mb k99 F (F3 + 1) c at' to wo b P N t g := by
  unfold MT3 p_M_readGiven_L113
  refine cf (by rw [h1]; decide) (dt h1 ?_)
  unfold p_M_readGiven_J130 p_M_readGiven_J144
  exact df (by rw [h1]; decide) (ct rfl h)
theorem st3 {c w : Int32} {p at' to : Nat} (hn : n ≤ 2000) (hL : Lx n tb mb p c at' to w) (nx : c ≠ -1 → NX n tb mb n0 t0 to) : J3 n tb mb n0 t0 c at' to w := by
  intro s t g b P N hO hr hg b1 b2 hd
  obtain ⟨ok, -, hto, hat, -, -, -⟩ := hL
  have hs1 : s.1 = t.1 := hO.1.1
  by_cases c2 : c = -2
  · have c1 : c ≠ -1 := by rw [c2]; decide
    have hm1 : ms c = 1 := (ms_1 ok).mpr c2
    have fu : ∀ {F3}, FU n c to F3 → ∃ F', F3 = F' + 1 := fun {F3} h => ⟨F3 - 1, by have := h.1; omega⟩
    by_cases hw : inR w 1 10
    · obtain ⟨v0, v1, v2, hv⟩ := inR_nat (a := 1) (b := 10) hw (by decide) (by decide)
      by_cases hq : (P ||| N) &&& bv v0 = 0
      · obtain ⟨c', a', t', w', hL', hJ⟩ := nx c1
        obtain ⟨kd, pl, s', t2, g', h1, h2, h3, h4⟩ := hJ.2.2.2.1 s t g b (P ||| bv v0) N hO hr hg b1 b2 (disj_add hq hd).1
        refine ⟨kd, pl, s', t2, g', h1, h2, fun l r v k F x num hk hF hx hnum => tt3 ?_, fun k99 F F3 wo hk hF hF3 hwo => ?_⟩
        · have e := hnum c2
          have key := c_adv (num := num) hn hL' c1 (hat c1) hto (h3 l r v) hk hF hx
          subst c2
          unfold p_R_takeInsideClause
          exact df (by decide) (df (by decide) (tn3 (c_lit v1 v2 (e.trans hv) (fun q => absurd hq q) (fun _ q => absurd q (by decide)) (fun _ _ => key))))
        · obtain ⟨F', rfl⟩ := fu hF3
          exact m_113 hm1 (m_litK hm1 ((hwo c2).trans hv) v1 v2 hq hL' (fun q => absurd rfl q) (fun _ wo2 hwo2 => h4 k99 F F' wo2 hk (hF.next c1 hto hL') (hF3.prev c1 hto hL') hwo2))
      · refine ⟨3, nI at', s, t, g, Or.inr (by decide), hO, fun l r v k F x num hk hF hx hnum => tt3 ?_, fun k99 F F3 wo hk hF hF3 hwo => ?_⟩
        · have e := hnum c2
          have key : ∀ {y a b c d e f h i j l m : Int32}, p_R_readText_L35 (nI n) tb k F y (nI s.1) (nI g) (cB s) (cL s) (cR s) (cV s) (cP s) (cN s) (cX s) 3 (nI at') a b c d e f h i j l m := c_flt hk hF.1 (by decide)
          subst c2
          unfold p_R_takeInsideClause
          exact df (by decide) (df (by decide) (tn3 (c_lit v1 v2 (e.trans hv) (fun _ => key) (fun q => absurd q hq) (fun q => absurd q hq))))
        · obtain ⟨F', rfl⟩ := fu hF3
          exact m_113 hm1 (m_litT hm1 ((hwo c2).trans hv) v1 v2 hq (m_flt hk hF.1 (by decide)))
    · refine ⟨2, nI at', s, t, g, Or.inr (by decide), hO, fun l r v k F x num hk hF hx hnum => tt3 ?_, fun k99 F F3 wo hk hF hF3 hwo => ?_⟩
      · have e := hnum c2
        have key : ∀ {y a b c d e f h i j l m : Int32}, p_R_readText_L35 (nI n) tb k F y (nI s.1) (nI g) (cB s) (cL s) (cR s) (cV s) (cP s) (cN s) (cX s) 2 (nI at') a b c d e f h i j l m := c_flt hk hF.1 (by decide)
        subst c2
        unfold p_R_takeInsideClause
        exact df (by decide) (df (by decide) (tn3 (c_litF (by rw [e]; exact hw) key)))
      · obtain ⟨F', rfl⟩ := fu hF3
        exact m_113 hm1 (m_litR hm1 (by rw [hwo c2]; exact hw) (m_flt hk hF.1 (by decide)))
  by_cases c3 : c = 45
  · have c1 : c ≠ -1 := by rw [c3]; decide
    obtain ⟨c', a', t', w', hL', hJ⟩ := nx c1
    obtain ⟨kd, pl, s', t2, g', h1, h2, h3, h4⟩ := hJ.2.2.2.2.1 s t g b P N hO hr hg b1 b2 hd
    refine ⟨kd, pl, s', t2, g', h1, h2, fun l r v k F x num hk hF hx hnum => tt3 ?_, fun k99 F F3 wo hk hF hF3 hwo => ?_⟩
    · unfold p_R_takeInsideClause
      exact dt c3 (c_adv hn hL' c1 (hat c1) hto (h3 l r v) hk hF hx)
    · obtain ⟨F', rfl⟩ : ∃ F', F3 = F' + 1 := ⟨F3 - 1, by have := hF3.1; omega⟩
      have h45 : ms c = 45 := (ms_45 ok).mpr c3
      unfold MT3 p_M_readGiven_L113
      refine ct h45 ?_
      unfold p_M_readGiven_J130 p_M_readGiven_J144
      exact dt h45 (cf (by decide) (hL'.2.2.2.2.2.2 _ _ _ _ (fun wo2 hwo2 => h4 k99 F F' wo2 hk (hF.next c1 hto hL') (hF3.prev c1 hto hL') hwo2)))
  have k45 : ¬ ms c = 45 := fun h => c3 ((ms_45 ok).mp h)
  have k1 : ¬ ms c = 1 := fun h => c2 ((ms_1 ok).mp h)
  by_cases c4 : c = 59
  · have c1 : c ≠ -1 := by rw [c4]; decide
    obtain ⟨c', a', t', w', hL', hJ⟩ := nx c1
    have hO2 : OKs n0 t0 (addS s P N (nI b) 0 0 0) (addS t P N (nI b) 0 0 0) (g + 1) := ⟨add_eq hO.1, hO.2.1.addS hr (Or.inl ⟨b, b1, b2, rfl, rfl, rfl, rfl⟩) hd, by omega⟩
    obtain ⟨kd, pl, s', t2, g', h1, h2, h3, h4⟩ := hJ.1 _ _ (g + 1) hO2
    refine ⟨kd, pl, s', t2, g', h1, h2, fun l r v k F x num hk hF hx hnum => tt3 ?_, fun k99 F F3 wo hk hF hF3 hwo => ?_⟩
    · unfold p_R_takeInsideClause
      refine df c3 (dt c4 (s_draftG (by omega) hg (fun u hu => ?_)))
      subst hu
      exact c_adv hn hL' c1 (hat c1) hto (h3 (nI b) P N l r v) hk hF hx
    · obtain ⟨F', rfl⟩ : ∃ F', F3 = F' + 1 := ⟨F3 - 1, by have := hF3.1; omega⟩
      unfold MT3 p_M_readGiven_L113
      refine cf k45 (df k1 ?_)
      unfold K265
      refine takes1 ((ms_59 ok).mpr c4) hL' (fun wo2 hwo2 => cf (by decide) (s_madd (by omega) (fun u hu => ?_)))
      subst hu
      have hb0 : ¬ nI b ≤ (0 : Int32) := n_nle (b := 0) (by omega)
      rw [if_neg hb0, n_p1]
      exact h4 k99 F wo2 hk (hF.next c1 hto hL') hwo2
  · refine ⟨1, nI at', s, t, g, Or.inr (by decide), hO, fun l r v k F x num hk hF hx hnum => tt3 ?_, fun k99 F F3 wo hk hF hF3 hwo => ?_⟩
    · unfold p_R_takeInsideClause
      exact df c3 (df c4 (tnF c2 (c_flt hk hF.1 (by decide))))
    · obtain ⟨F', rfl⟩ : ∃ F', F3 = F' + 1 := ⟨F3 - 1, by have := hF3.1; omega⟩
      unfold MT3 p_M_readGiven_L113
      refine cf k45 (df k1 ?_)
      unfold K265
      exact takes0 (fun h => c4 ((ms_59 ok).mp h)) (ct rfl (m_flt hk hF.1 (by decide)))
/-! the numbers of clauses -/
theorem m_here {t : CS} {at' to : Nat} {c wo : Int32} {k : Int32 → Int32 → Int32 → Int32 → Int32 → Int32 → Int32 → Prop} {c' w' : Int32} {a' t' : Nat} (hc : ms c = 1) (hw : inR wo 1 (nI t.1)) (hL : Lx n tb mb to c' a' t' w') (h : ∀ wo2, (c' = -2 → wo2 = w') → k wo (nI a') (nI t') (ms c') wo2 0 (-1)) : p_M_clauseHere (nI t.1) (nI n) (nI at') (nI to) (ms c) wo 0 (-1) mb k := by
  unfold p_M_clauseHere p_M_clauseHere_J14
  exact dt hc (need1 (cf (by decide) (cf hw.1 (cf hw.2 (need1 (df (by decide) (hL.2.2.2.2.2.2 _ _ _ _ h)))))))
theorem m_here2 {t : CS} {at' to : Nat} {c wo : Int32} {k : Int32 → Int32 → Int32 → Int32 → Int32 → Int32 → Int32 → Prop} (hc : ms c = 1) (hw : ¬ inR wo 1 (nI t.1)) (h : k 0 (nI at') (nI to) (ms c) wo 2 (nI at')) : p_M_clauseHere (nI t.1) (nI n) (nI at') (nI to) (ms c) wo 0 (-1) mb k := by
  unfold p_M_clauseHere p_M_clauseHere_J14
  exact dt hc (need1 (cf (by decide) ⟨fun _ => need0 (by decide) (dt rfl h), fun q => ⟨fun _ => need0 (by decide) (dt rfl h), fun q2 => absurd ⟨q, q2⟩ hw⟩⟩))
theorem m_here1 {t : CS} {at' to : Nat} {c wo : Int32} {k : Int32 → Int32 → Int32 → Int32 → Int32 → Int32 → Int32 → Prop} (hc : ¬ ms c = 1) (h : k 0 (nI at') (nI to) (ms c) wo 1 (nI at')) : p_M_clauseHere (nI t.1) (nI n) (nI at') (nI to) (ms c) wo 0 (-1) mb k := by
  unfold p_M_clauseHere p_M_clauseHere_J14
  exact df hc (need0 (by decide) (ct rfl h))
theorem c_here {m : Nat} {num : Int32} {k : Int32 → Prop} (hm : m ≤ 200) (h1 : inR num 1 (nI m) → k 1) (h0 : ¬ inR num 1 (nI m) → k 0) : p_C_isDrafted (nI m) num k := by
  unfold p_C_isDrafted
  refine ⟨fun q => h0 (fun h => h.1 q), fun q => ⟨fun q2 => h0 (fun h => h.2 q2), fun q2 => ⟨fun q3 => h0 (fun h => ?_), fun _ => h1 ⟨q, q2⟩⟩⟩⟩
  obtain ⟨j, j1, j2, rfl⟩ := inR_nat (a := 1) h (by decide) (by omega)
  exact absurd q3 (n_nlt (a := 200) (b := j) (by omega))
theorem st5 {c w : Int32} {p at' to : Nat} (hn : n ≤ 2000) (hL : Lx n tb mb p c at' to w) (nx : c ≠ -1 → NX n tb mb n0 t0 to) : J5 n tb mb n0 t0 c at' to w := by
  intro s t g hO hr
  obtain ⟨ok, -, hto, hat, -, -, -⟩ := hL
  have hs1 : s.1 = t.1 := hO.1.1
  by_cases c2 : c = -2
  · have c1 : c ≠ -1 := by rw [c2]; decide
    have hm1 : ms c = 1 := (ms_1 ok).mpr c2
    by_cases hw : inR w 1 (nI t.1)
    · obtain ⟨l0, l1, l2, hl⟩ := inR_nat (a := 1) hw (by decide) (by omega)
      obtain ⟨c', a', t', w', hL', hJ⟩ := nx c1
      obtain ⟨kd, pl, s', t2, g', h1, h2, h3, h4⟩ := hJ.2.2.2.2.2.2.1 s t g l0 hO hr l1 l2
      refine ⟨kd, pl, s', t2, g', h1, h2, fun b P N l r v k F x num hk hF hx hnum => tt5 ?_, fun k99 F wo hk hF hwo => ?_⟩
      · have e := hnum c2
        have key := c_adv (num := num) hn hL' c1 (hat c1) hto (h3 b P N r v) hk hF hx
        subst c2
        refine tn5 ?_
        unfold p_R_takeLeft
        subst e; subst hl
        exact c_here (by omega) (fun _ => df (by decide) key) (fun q => absurd (by rw [hs1]; exact hw) q)
      · have e := hwo c2
        unfold MT5
        rw [e]
        refine m_here hm1 hw hL' (fun wo2 hwo2 => ct (by decide) ?_)
        rw [hl]
        exact h4 k99 F wo2 hk (hF.next c1 hto hL') hwo2
    · refine ⟨2, nI at', s, t, g, Or.inr (by decide), hO, fun b P N l r v k F x num hk hF hx hnum => tt5 ?_, fun k99 F wo hk hF hwo => ?_⟩
      · have e := hnum c2
        have key : ∀ {y a b c d e f h i j l m : Int32}, p_R_readText_L35 (nI n) tb k F y (nI s.1) (nI g) (cB s) (cL s) (cR s) (cV s) (cP s) (cN s) (cX s) 2 (nI at') a b c d e f h i j l m := c_flt hk hF.1 (by decide)
        subst c2
        refine tn5 ?_
        unfold p_R_takeLeft p_R_fail
        exact c_here (by omega) (fun q => absurd (by rw [← e, ← hs1]; exact q) hw) (fun _ => dt rfl key)
      · unfold MT5
        exact m_here2 hm1 (by rw [hwo c2]; exact hw) (cf (by decide) (m_flt hk hF.1 (by decide)))
  · refine ⟨1, nI at', s, t, g, Or.inr (by decide), hO, fun b P N l r v k F x num hk hF hx hnum => tt5 (tnF c2 (c_flt hk hF.1 (by decide))), fun k99 F wo hk hF hwo => ?_⟩
    unfold MT5
    exact m_here1 (fun h => c2 ((ms_1 ok).mp h)) (cf (by decide) (m_flt hk hF.1 (by decide)))
theorem st6 {c w : Int32} {p at' to : Nat} (hn : n ≤ 2000) (hL : Lx n tb mb p c at' to w) (nx : c ≠ -1 → NX n tb mb n0 t0 to) : J6 n tb mb n0 t0 c at' to w := by
  intro s t g l hO hr l1 l2
  obtain ⟨ok, -, hto, hat, -, -, -⟩ := hL
  have hs1 : s.1 = t.1 := hO.1.1
  by_cases c2 : c = -2
  · have c1 : c ≠ -1 := by rw [c2]; decide
    have hm1 : ms c = 1 := (ms_1 ok).mpr c2
    by_cases hw : inR w 1 (nI t.1)
    · obtain ⟨r0, r1, r2, hr0⟩ := inR_nat (a := 1) hw (by decide) (by omega)
      obtain ⟨c', a', t', w', hL', hJ⟩ := nx c1
      obtain ⟨kd, pl, s', t2, g', h1, h2, h3, h4⟩ := hJ.2.2.2.2.2.2.2.1 s t g l r0 hO hr l1 l2 r1 r2
      refine ⟨kd, pl, s', t2, g', h1, h2, fun b P N r v k F x num hk hF hx hnum => tt6 ?_, fun k99 F wo hk hF hwo => ?_⟩
      · have e := hnum c2
        have key := c_adv (num := num) hn hL' c1 (hat c1) hto (h3 b P N v) hk hF hx
        subst c2
        refine tn6 ?_
        unfold p_R_takeRight
        subst e; subst hr0
        exact c_here (by omega) (fun _ => df (by decide) key) (fun q => absurd (by rw [hs1]; exact hw) q)
      · have e := hwo c2
        unfold MT6
        rw [e]
        refine m_here hm1 hw hL' (fun wo2 hwo2 => ct (by decide) ?_)
        rw [hr0]
        exact h4 k99 F wo2 hk (hF.next c1 hto hL') hwo2
    · refine ⟨2, nI at', s, t, g, Or.inr (by decide), hO, fun b P N r v k F x num hk hF hx hnum => tt6 ?_, fun k99 F wo hk hF hwo => ?_⟩
      · have e := hnum c2
        have key : ∀ {y a b c d e f h i j l m : Int32}, p_R_readText_L35 (nI n) tb k F y (nI s.1) (nI g) (cB s) (cL s) (cR s) (cV s) (cP s) (cN s) (cX s) 2 (nI at') a b c d e f h i j l m := c_flt hk hF.1 (by decide)
        subst c2
        refine tn6 ?_
        unfold p_R_takeRight p_R_fail
        exact c_here (by omega) (fun q => absurd (by rw [← e, ← hs1]; exact q) hw) (fun _ => dt rfl key)
      · unfold MT6
        exact m_here2 hm1 (by rw [hwo c2]; exact hw) (cf (by decide) (m_flt hk hF.1 (by decide)))
  · refine ⟨1, nI at', s, t, g, Or.inr (by decide), hO, fun b P N r v k F x num hk hF hx hnum => tt6 (tnF c2 (c_flt hk hF.1 (by decide))), fun k99 F wo hk hF hwo => ?_⟩
    unfold MT6
    exact m_here1 (fun h => c2 ((ms_1 ok).mp h)) (cf (by decide) (m_flt hk hF.1 (by decide)))
end PS

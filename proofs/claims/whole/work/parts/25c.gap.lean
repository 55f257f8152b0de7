/-! PURE: gap -/
noncomputable def allS (t : CS) (fr to : Int32) (w : Nat) : Nat → Int64
  | 0 => -1
  | i + 1 => @ite _ (¬ cB t (i + 1) = 0 ∧ ¬ cB t (i + 1) < fr ∧ ¬ to < cB t (i + 1)) (Classical.propDecidable _) (allS t fr to w i &&& anyS (bt (cP t (i + 1))) (bt (cN t (i + 1))) w 10) (allS t fr to w i)
section GP
variable {n e : Nat} {t : CS} {cb cl cr cv cp cn cx cD mD : FF}
theorem allS_p {fr to : Int32} {w i : Nat} (h : ¬ cB t (i + 1) = 0 ∧ ¬ cB t (i + 1) < fr ∧ ¬ to < cB t (i + 1)) : allS t fr to w (i + 1) = allS t fr to w i &&& anyS (bt (cP t (i + 1))) (bt (cN t (i + 1))) w 10 := if_pos h
theorem allS_q {fr to : Int32} {w i : Nat} (h : ¬ (¬ cB t (i + 1) = 0 ∧ ¬ cB t (i + 1) < fr ∧ ¬ to < cB t (i + 1))) : allS t fr to w (i + 1) = allS t fr to w i := if_neg h
theorem l_allT {fr to : Int32} {w : Nat} {k : Int64 → Prop} (hn : n ≤ 200) (hE : EQc n cb cl cr cv cp cn cx (cB t) (cL t) (cR t) (cV t) (cP t) (cN t) (cX t)) (hk : k (allS t fr to w n)) : ∀ (d i : Nat), d + i = n → p_C_allTrue_L8 (nI n) cb cp cn fr to (nI w) k (d + 1) (allS t fr to w i) (nI (i + 1))
  | 0, i, hd => by
    have : i = n := by omega
    subst this
    unfold p_C_allTrue_L8
    exact ct (n_lt (by omega)) hk
  | d + 1, i, hd => by
    obtain ⟨e1, -, -, -, e5, e6, -, -⟩ := hE (i + 1) (by omega) (by omega)
    have ih := l_allT hn hE hk d (i + 1) (by omega)
    have ec : (nI (i + 1)).toNatClampNeg = i + 1 := n_cl
    unfold p_C_allTrue_L8 p_C_isGivenOf
    rw [ec, e1, e5, e6, n_p1]
    refine cf (n_nlt (by omega)) ⟨n_in (by omega), fun q => ct rfl ?_, fun q => ⟨fun q2 => ct rfl ?_, fun q2 => ⟨fun q3 => ct rfl ?_, fun q3 => cf (by decide) ⟨n_in (by omega), s_any ?_⟩⟩⟩⟩
    · rw [allS_q (fun z => z.1 q)] at ih; exact ih
    · rw [allS_q (fun z => z.2.1 q2)] at ih; exact ih
    · rw [allS_q (fun z => z.2.2 q3)] at ih; exact ih
    · rw [allS_p ⟨q, q2, q3⟩] at ih; exact ih
theorem s_allT {fr to : Int32} {w : Nat} {k : Int64 → Prop} (C : CTX n e t cb cl cr cv cp cn cx cD mD) (hk : k (allS t fr to w n)) : p_C_allTrue (nI n) cb cp cn fr to (nI w) k := by
  have h1 := C.1.1
  have h2 := C.2.1
  unfold p_C_allTrue
  exact ⟨n + 1, l_allT (by omega) C.2.2.2.2.1 hk n 0 (by omega)⟩
theorem l_prod {lab : FF} {fr to : Int32} {w : Nat} {k : Int64 → Prop} (hn : n ≤ 200) (hE : EQc n cb cl cr cv cp cn cx (cB t) (cL t) (cR t) (cV t) (cP t) (cN t) (cX t)) (hk : k (allS t fr to w n)) : ∀ (d i : Nat), d + i = n → p_M_product_L8 (nI n) (cP t) (cN t) (cB t) lab fr to (nI w) k (d + 1) (allS t fr to w i) (nI (i + 1))
  | 0, i, hd => by
    have : i = n := by omega
    subst this
    unfold p_M_product_L8
    exact ct (n_lt (by omega)) hk
  | d + 1, i, hd => by
    have ok := (hE (i + 1) (by omega) (by omega)).2.2.2.2.2.2.2
    have ih := l_prod (lab := lab) hn hE hk d (i + 1) (by omega)
    have ec : (nI (i + 1)).toNatClampNeg = i + 1 := n_cl
    unfold p_M_product_L8
    rw [ec, n_p1]
    refine cf (n_nlt (by omega)) ⟨n_in (by omega), fun q => ?_, fun q => ⟨fun q2 => ?_, fun q2 => ⟨fun q3 => ?_, fun q3 => ?_⟩⟩⟩
    · rw [allS_q (fun z => z.2.1 q)] at ih; exact ih
    · rw [allS_q (fun z => z.2.2 q2)] at ih; exact ih
    · rw [allS_q (fun z => z.1 ((b_le0 ok).mp q3))] at ih; exact ih
    · rw [allS_p ⟨fun z => q3 ((b_le0 ok).mpr z), q, q2⟩] at ih
      refine s_sum (sys := 0) (by omega) (by omega) ?_
      have es : ∀ x, selS lab 0 0 0 0 x = bt x := fun x => by funext v; unfold selS; simp
      rw [es, es]
      exact ih
theorem s_prod {lab : FF} {fr to : Int32} {w : Nat} {k : Int64 → Prop} (C : CTX n e t cb cl cr cv cp cn cx cD mD) (hk : k (allS t fr to w n)) : p_M_product (nI n) (cP t) (cN t) (cB t) lab fr to (nI w) k := by
  have h1 := C.1.1
  have h2 := C.2.1
  unfold p_M_product
  exact ⟨n + 1, l_prod (by omega) C.2.2.2.2.1 hk n 0 (by omega)⟩
noncomputable def gw (t : CS) (n c g : Nat) (A B : Nat → Int64) (w : Nat) : Int64 :=
  if g = 0 then allS t 1 (nI c) w n &&& (A w ^^^ (-1)) else if g = 1 then allS t (nI c + 1) 8 w n &&& A w else (allS t (nI c + 1) (nI c + 1) w n &&& A w) &&& (B w ^^^ (-1))
noncomputable def gs (t : CS) (n c g : Nat) (A B : Nat → Int64) : Nat → Int32 → Nat → Int32
  | 0, x, _ => x
  | d + 1, x, w => gs t n c g A B d (x + nI (pc (gw t n c g A B w))) (w + 1)
theorem gw_0 {c : Nat} {A B : Nat → Int64} {w : Nat} : gw t n c 0 A B w = allS t 1 (nI c) w n &&& (A w ^^^ (-1)) := if_pos rfl
theorem gw_1 {c : Nat} {A B : Nat → Int64} {w : Nat} : gw t n c 1 A B w = allS t (nI c + 1) 8 w n &&& A w := by unfold gw; rw [if_neg (by decide), if_pos rfl]
theorem gw_2 {c : Nat} {A B : Nat → Int64} {w : Nat} : gw t n c 2 A B w = (allS t (nI c + 1) (nI c + 1) w n &&& A w) &&& (B w ^^^ (-1)) := by unfold gw; rw [if_neg (by decide), if_neg (by decide)]
theorem g_3 {g : Nat} (h : g ≤ 2) : g = 0 ∨ g = 1 ∨ g = 2 := by omega
theorem l_b68 {c g : Nat} {A B : Nat → Int64} {x y z : Int32} {row T N : FL} {k : Int32 → Int32 → Int32 → Int32 → FL → FL → FL → Prop} (C : CTX n e t cb cl cr cv cp cn cx cD mD) (hg : g ≤ 2) (hT : ∀ u, u < 16 → T u = A u) (hN : g = 2 → ∀ u, u < 16 → N u = B u) : ∀ (d w : Nat) (s : Int32), d + w = 16 → k (gs t n c g A B d s w) x y z row T N → p_B_gap_L68 (nI n) cb cp cn x y z row T N (nI c) (nI g) k (d + 1) s (nI w)
  | 0, w, s, hd, hk => by
    have : w = 16 := by omega
    subst this
    unfold p_B_gap_L68
    exact ct (by decide) hk
  | d + 1, w, s, hd, hk => by
    unfold gs at hk
    have go := l_b68 (x := x) (y := y) (z := z) (row := row) (k := k) C hg hT hN d (w + 1) (s + nI (pc (gw t n c g A B w))) (by omega) hk
    have ec : (nI w).toNatClampNeg = w := n_cl
    unfold p_B_gap_L68 p_B_gapWord
    rw [ec, n_p1 w, hT w (by omega)]
    refine cf (n_nle (a := 16) (by omega)) ?_
    rcases g_3 hg with rfl | rfl | rfl
    · rw [gw_0] at go
      exact ⟨fun _ => s_allT C ⟨n_in (by omega), s_bitCount go⟩, fun q => absurd q (by decide), fun q => absurd rfl q⟩
    · rw [gw_1] at go
      exact ⟨fun q => absurd q (by decide), fun _ => s_allT C ⟨n_in (by omega), s_bitCount go⟩, fun _ q => absurd rfl q⟩
    · refine ⟨fun q => absurd q (by decide), fun q => absurd q (by decide), fun _ _ => s_allT C ⟨n_in (by omega), s_bitCount ?_⟩⟩
      rw [gw_2] at go; rw [hN rfl w (by omega)]; exact go
theorem l_m134 {c g : Nat} {lab : FF} {A B : Nat → Int64} {of se : FL} {k : Int32 → FL → FL → Prop} (C : CTX n e t cb cl cr cv cp cn cx cD mD) (hg : g ≤ 2) (hT : ∀ u, u < 16 → of (16 * e + u) = A u) (hN : g = 2 → ∀ u, u < 16 → se u = B u) : ∀ (d w : Nat) (s : Int32), d + w = 16 → k (gs t n c g A B d s w) of se → p_M_gap_L134 (nI n) (nI e) (cP t) (cN t) (cB t) lab of se (nI c) (nI g) k (d + 1) s (nI w)
  | 0, w, s, hd, hk => by
    have : w = 16 := by omega
    subst this
    unfold p_M_gap_L134
    exact ct (by decide) hk
  | d + 1, w, s, hd, hk => by
    have h1 := C.1.1
    have h2 := C.2.1
    have h3 := C.2.2.2.1
    unfold gs at hk
    have go := l_m134 (lab := lab) (k := k) C hg hT hN d (w + 1) (s + nI (pc (gw t n c g A B w))) (by omega) hk
    have ec : (nI w).toNatClampNeg = w := n_cl
    have e2 : (nI (16 * e + w)).toNatClampNeg = 16 * e + w := n_cl
    unfold p_M_gap_L134
    rw [m16, ec, e2, n_p1 w, hT w (by omega)]
    refine cf (n_nle (a := 16) (by omega)) ⟨n_in (by omega), fun v hv => ?_⟩
    subst hv
    rcases g_3 hg with rfl | rfl | rfl
    · rw [gw_0] at go
      exact dt rfl (s_prod C (s_ones go))
    · rw [gw_1] at go
      exact df (by decide) (dt rfl (s_prod C (s_ones go)))
    · refine df (by decide) (df (by decide) (s_prod C ⟨n_in (by omega), s_ones ?_⟩))
      rw [gw_2] at go; rw [hN rfl w (by omega), Int64.and_comm (A w)]; exact go
end GP
theorem s_gap {csz cgv cem mcl mgv mend x1 x2 x3 f1 f2 f3 : Int32} {cb cl cr cv cp cn cx cD mb ml mr mv mp mn mx mD of lab : FF} {row T N mo mf : FL} {K : Int32 → Int32 → Int32 → Int32 → FL → FL → FL → Int32 → FL → FL → Prop}
    (hr : RCL csz cgv cem cb cl cr cv cp cn cx cD mcl mgv mend mb ml mr mv mp mn mx mD) (hR : RL of lab) (hk : ∀ r a b c d e f g h, K r a b c d e f r g h) :
    p_B_gap csz cem cb cl cr cv cp cn cD of f1 f2 f3 row T N x1 x2 x3 (fun r a b c d e f => p_M_gap mcl mend mp mn mb ml mr mv mD lab mo mf x1 x2 x3 (fun r' g h => K r a b c d e f r' g h)) := by
  obtain ⟨n, e, hn, he, rfl, rfl, rfl, rfl, hC⟩ := hr.ctx
  unfold p_B_gap p_M_gap
  refine s_isCut (fun h1 => cf (by decide) ?_) (fun h1 => ct rfl (s_in (fun q => absurd q h1) (fun _ => ct rfl (hk _ _ _ _ _ _ _ _ _))))
  refine s_isSys (fun h2 => df (by decide) ?_) (fun h2 => dt rfl (s_in (fun _ => cf (by decide) (s_in (fun q => absurd q h2) (fun _ => dt rfl (hk _ _ _ _ _ _ _ _ _)))) (fun q => absurd h1 q)))
  by_cases h0 : e = 0
  · subst h0
    exact ct rfl (s_in (fun _ => cf (by decide) (s_in (fun _ => df (by decide) (ct rfl (hk _ _ _ _ _ _ _ _ _))) (fun q => absurd h2 q))) (fun q => absurd h1 q))
  · have C := hC h0
    obtain ⟨ee, e0, em⟩ := endOf_ne h0 he
    obtain ⟨c, c1, c2, rfl⟩ := inR_nat (a := 1) (b := 7) h1 (by decide) (by decide)
    obtain ⟨s1, -, s2, rfl⟩ := inR_nat (a := 0) (b := 3) h2 (by decide) (by decide)
    rw [ee]
    have pre : ∀ {P : Int32 → Prop} {Q R S : Prop}, (inR x3 0 2 → P 1) → (¬ inR x3 0 2 → P 0) → p_M_in (nI c) 1 7 (fun r_1 => (r_1 = 0 → Q) ∧ (¬ r_1 = 0 → p_M_in (nI s1) 0 3 (fun r_3 => (¬ r_3 = 0 → (nI e = -1 → R) ∧ (¬ nI e = -1 → p_M_in x3 0 2 P)) ∧ (r_3 = 0 → S)))) := fun a b =>
      s_in (fun _ => cf (by decide) (s_in (fun _ => df (by decide) (cf em (s_in a b))) (fun q => absurd h2 q))) (fun q => absurd h1 q)
    refine cf e0 ⟨fun q => pre (fun z => absurd q z.1) (fun _ => dt rfl (hk _ _ _ _ _ _ _ _ _)), fun q1 => ⟨fun q2 => ?_, fun q2 => pre (fun z => absurd (Int32.not_lt.mp z.2) q2) (fun _ => dt rfl (hk _ _ _ _ _ _ _ _ _))⟩⟩
    have h3 : inR x3 0 2 := ⟨q1, Int32.not_lt.mpr q2⟩
    obtain ⟨g, -, g2, rfl⟩ := inR_nat (a := 0) (b := 2) h3 (by decide) (by decide)
    refine s_tabT C c2 s2 hR (fun LA LB row1 T1 hT => ⟨fun q => ?_, fun q => ?_⟩)
    · have hg2 : g ≠ 2 := fun z => q (by rw [z]; rfl)
      unfold p_B_gap_J62
      refine ⟨17, l_b68 (B := fun _ => 0) C g2 hT (fun z => absurd z hg2) 16 0 0 (by omega) ?_⟩
      refine pre (fun _ => df (by decide) ⟨17, l_g44 (fun se hse => df q ?_) 16 0 mf (by omega) (fun u hu => by omega)⟩) (fun z => absurd h3 z)
      unfold p_M_gap_J122
      exact s_part1 C s2 (fun of1 ho => ⟨17, l_m134 (B := fun _ => 0) C g2 ho (fun z => absurd z hg2) 16 0 0 (by omega) (hk _ _ _ _ _ _ _ _ _)⟩)
    · have hg2 : g = 2 := by
        rcases g_3 g2 with rfl | rfl | rfl
        · exact absurd q (by decide)
        · exact absurd q (by decide)
        · rfl
      subst hg2
      unfold p_B_nextInterpolant p_B_gap_J62
      refine ⟨fun q7 => ?_, fun q7 => ?_⟩
      · unfold p_J_fillL
        refine ⟨17, l_fillL (fun N1 hN1 => ⟨17, l_b68 (B := fun _ => 0) C g2 hT (fun _ => hN1) 16 0 0 (by omega) ?_⟩) 16 0 N (by omega) (fun u hu => by omega)⟩
        refine pre (fun _ => df (by decide) ⟨17, l_g44 (fun se hse => dt rfl (ct q7 ?_)) 16 0 mf (by omega) (fun u hu => by omega)⟩) (fun z => absurd h3 z)
        unfold p_M_gap_J122
        exact s_part1 C s2 (fun of1 ho => ⟨17, l_m134 (B := fun _ => 0) C g2 ho (fun _ => hse) 16 0 0 (by omega) (hk _ _ _ _ _ _ _ _ _)⟩)
      · have hc6 : c + 1 ≤ 7 := by
          rcases Nat.lt_or_ge c 7 with z | z
          · exact z
          · exact absurd (n_le (a := 7) z) q7
        rw [n_p1]
        refine s_tabN C hc6 s2 hR (fun LA2 LB2 row2 N1 hN1 => ⟨17, l_b68 C g2 hT (fun _ => hN1) 16 0 0 (by omega) ?_⟩)
        refine pre (fun _ => df (by decide) ⟨17, l_g44 (fun se hse => dt rfl (cf q7 ?_)) 16 0 mf (by omega) (fun u hu => by omega)⟩) (fun z => absurd h3 z)
        refine s_part1 C s2 (fun of1 ho1 => ⟨17, l_g87 he (fun se2 hse2 => ?_) 16 0 se (by omega) (fun u hu => by omega)⟩)
        unfold p_M_gap_J122
        exact s_part1 C s2 (fun of2 ho => ⟨17, l_m134 C g2 ho (fun _ u hu => (hse2 u hu).trans (ho1 u hu)) 16 0 0 (by omega) (hk _ _ _ _ _ _ _ _ _)⟩)

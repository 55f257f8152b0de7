/-! PURE: the tables of a cut, follows, gap -/
noncomputable def VE (lab : FF) (t : CS) (n sys c e w : Nat) : Int64 := VL lab (occA (cP t) (cN t) (cB t) c n) (occB (cP t) (cN t) (cB t) c n) sys c t w e
def CTX (n e : Nat) (t : CS) (cb cl cr cv cp cn cx cD mD : FF) : Prop := GS t ∧ t.1 = n ∧ 1 ≤ e ∧ e ≤ n ∧ EQc n cb cl cr cv cp cn cx (cB t) (cL t) (cR t) (cV t) (cP t) (cN t) (cX t) ∧ RN n e (cB t) (cL t) (cR t) cD mD
section TB
variable {n e : Nat} {t : CS} {cb cl cr cv cp cn cx cD mD : FF}
theorem l_tabT {lab of : FF} {sys c : Nat} {a b LA LB : Int32} {k : Int32 → Int32 → Int32 → FL → FL → Prop} (C : CTX n e t cb cl cr cv cp cn cx cD mD) (hM : MK lab a b sys LA LB)
    (hk : ∀ row tab : FL, (∀ u, u < 16 → tab u = VL lab a b sys c t u e) → k (nI c) LA LB row tab) : ∀ (d w : Nat) (row tab : FL), d + w = 16 → (∀ u, u < w → tab u = VL lab a b sys c t u e) → p_F_interpolantT_L9 (nI e) cb cl cr cv cp cn cD (nI c) LA LB k (d + 1) (nI w) row tab
  | 0, w, row, tab, hd, ht => by
    have : w = 16 := by omega
    subst this
    unfold p_F_interpolantT_L9
    exact ct (by decide) (hk row tab ht)
  | d + 1, w, row, tab, hd, ht => by
    obtain ⟨hg, hn, he1, he, hE, hN⟩ := C
    have h200 := hg.1
    unfold p_F_interpolantT_L9
    refine cf (n_nle (a := 16) (by omega)) (cf (n_nle (a := 16) (by omega)) (s_work hg hn he hE hN hM (c := c) (fun row2 hr => ⟨n_in (by omega), n_in (by omega), ?_⟩)))
    have e1 : (nI w).toNatClampNeg = w := n_cl
    have e2 : (nI e).toNatClampNeg = e := n_cl
    rw [e1, e2, n_p1]
    refine l_tabT ⟨hg, hn, he1, he, hE, hN⟩ hM (of := of) hk d (w + 1) row2 _ (by omega) (fun u hu => ?_)
    by_cases z : u = w
    · rw [z, updL_s]; exact hr e he1 (Nat.le_refl _) (by rw [hN.2.2.2.2.1 (by omega)]; decide)
    · rw [updL_n z]; exact ht u (by omega)
theorem s_tabT {lab of : FF} {sys c : Nat} {row tab : FL} {k : Int32 → Int32 → Int32 → FL → FL → Prop} (C : CTX n e t cb cl cr cv cp cn cx cD mD) (hc : c ≤ 7) (hs : sys ≤ 3) (hR : RL of lab)
    (hk : ∀ (LA LB : Int32) (row tab : FL), (∀ u, u < 16 → tab u = VE lab t n sys c e u) → k (nI c) LA LB row tab) : p_F_interpolantT (nI n) (nI e) cb cl cr cv cp cn cD of row tab (nI c) (nI sys) k := by
  have h200 := C.1.1
  have hn := C.2.1
  unfold p_F_interpolantT
  exact s_choose (by omega) hc hs C.2.2.2.2.1 hR (fun LA LB hM => ⟨17, l_tabT C hM (of := of) (fun row tab ht => hk LA LB row tab ht) 16 0 row tab (by omega) (fun u hu => by omega)⟩)
theorem l_tabN {lab of : FF} {sys c : Nat} {a b LA LB : Int32} {k : Int32 → Int32 → Int32 → FL → FL → Prop} (C : CTX n e t cb cl cr cv cp cn cx cD mD) (hM : MK lab a b sys LA LB)
    (hk : ∀ row tab : FL, (∀ u, u < 16 → tab u = VL lab a b sys c t u e) → k (nI c) LA LB row tab) : ∀ (d w : Nat) (row tab : FL), d + w = 16 → (∀ u, u < w → tab u = VL lab a b sys c t u e) → p_F_interpolantN_L9 (nI e) cb cl cr cv cp cn cD (nI c) LA LB k (d + 1) (nI w) row tab
  | 0, w, row, tab, hd, ht => by
    have : w = 16 := by omega
    subst this
    unfold p_F_interpolantN_L9
    exact ct (by decide) (hk row tab ht)
  | d + 1, w, row, tab, hd, ht => by
    obtain ⟨hg, hn, he1, he, hE, hN⟩ := C
    have h200 := hg.1
    unfold p_F_interpolantN_L9
    refine cf (n_nle (a := 16) (by omega)) (cf (n_nle (a := 16) (by omega)) (s_work hg hn he hE hN hM (c := c) (fun row2 hr => ⟨n_in (by omega), n_in (by omega), ?_⟩)))
    have e1 : (nI w).toNatClampNeg = w := n_cl
    have e2 : (nI e).toNatClampNeg = e := n_cl
    rw [e1, e2, n_p1]
    refine l_tabN ⟨hg, hn, he1, he, hE, hN⟩ hM (of := of) hk d (w + 1) row2 _ (by omega) (fun u hu => ?_)
    by_cases z : u = w
    · rw [z, updL_s]; exact hr e he1 (Nat.le_refl _) (by rw [hN.2.2.2.2.1 (by omega)]; decide)
    · rw [updL_n z]; exact ht u (by omega)
theorem s_tabN {lab of : FF} {sys c : Nat} {row tab : FL} {k : Int32 → Int32 → Int32 → FL → FL → Prop} (C : CTX n e t cb cl cr cv cp cn cx cD mD) (hc : c ≤ 7) (hs : sys ≤ 3) (hR : RL of lab)
    (hk : ∀ (LA LB : Int32) (row tab : FL), (∀ u, u < 16 → tab u = VE lab t n sys c e u) → k (nI c) LA LB row tab) : p_F_interpolantN (nI n) (nI e) cb cl cr cv cp cn cD of row tab (nI c) (nI sys) k := by
  have h200 := C.1.1
  have hn := C.2.1
  unfold p_F_interpolantN
  exact s_choose (by omega) hc hs C.2.2.2.2.1 hR (fun LA LB hM => ⟨17, l_tabN C hM (of := of) (fun row tab ht => hk LA LB row tab ht) 16 0 row tab (by omega) (fun u hu => by omega)⟩)
/-! the reference's copies -/
theorem m16 (i w : Nat) : (16 : Int32) * nI i + nI w = nI (16 * i + w) := by rw [show (16 : Int32) = nI 16 from rfl, pk_mul, nI_add]
theorem l_f50 {of : FL} {k : FL → Prop} {e : Nat} (he : e ≤ 200) (hk : ∀ f : FL, (∀ u, u < 16 → f u = of (16 * e + u)) → k f) : ∀ (d w : Nat) (f : FL), d + w = 16 → (∀ u, u < w → f u = of (16 * e + u)) → p_M_follows_L50 (nI e) of k (d + 1) (nI w) f
  | 0, w, f, hd, hf => by
    have : w = 16 := by omega
    subst this
    unfold p_M_follows_L50
    exact ct (by decide) (hk f hf)
  | d + 1, w, f, hd, hf => by
    unfold p_M_follows_L50
    have e1 : (nI w).toNatClampNeg = w := n_cl
    have e2 : (nI (16 * e + w)).toNatClampNeg = 16 * e + w := n_cl
    rw [m16, e1, e2, n_p1]
    refine cf (n_nle (a := 16) (by omega)) ⟨n_in (by omega), n_in (by omega), fun x hx => l_f50 he hk d (w + 1) _ (by omega) (fun u hu => ?_)⟩
    by_cases z : u = w
    · rw [z, updL_s]; exact hx
    · rw [updL_n z]; exact hf u (by omega)
theorem l_g87 {of : FL} {k : FL → Prop} {e : Nat} (he : e ≤ 200) (hk : ∀ f : FL, (∀ u, u < 16 → f u = of (16 * e + u)) → k f) : ∀ (d w : Nat) (f : FL), d + w = 16 → (∀ u, u < w → f u = of (16 * e + u)) → p_M_gap_L87 (nI e) of k (d + 1) (nI w) f
  | 0, w, f, hd, hf => by
    have : w = 16 := by omega
    subst this
    unfold p_M_gap_L87
    exact ct (by decide) (hk f hf)
  | d + 1, w, f, hd, hf => by
    unfold p_M_gap_L87
    have e1 : (nI w).toNatClampNeg = w := n_cl
    have e2 : (nI (16 * e + w)).toNatClampNeg = 16 * e + w := n_cl
    rw [m16, e1, e2, n_p1]
    refine cf (n_nle (a := 16) (by omega)) ⟨n_in (by omega), n_in (by omega), fun x hx => l_g87 he hk d (w + 1) _ (by omega) (fun u hu => ?_)⟩
    by_cases z : u = w
    · rw [z, updL_s]; exact hx
    · rw [updL_n z]; exact hf u (by omega)
theorem l_g44 {k : FL → Prop} (hk : ∀ f : FL, (∀ u, u < 16 → f u = 0) → k f) : ∀ (d w : Nat) (f : FL), d + w = 16 → (∀ u, u < w → f u = 0) → p_M_gap_L44 k (d + 1) (nI w) f
  | 0, w, f, hd, hf => by
    have : w = 16 := by omega
    subst this
    unfold p_M_gap_L44
    exact ct (by decide) (hk f hf)
  | d + 1, w, f, hd, hf => by
    unfold p_M_gap_L44
    have e1 : (nI w).toNatClampNeg = w := n_cl
    rw [e1, n_p1]
    refine cf (n_nle (a := 16) (by omega)) ⟨n_in (by omega), l_g44 hk d (w + 1) _ (by omega) (fun u hu => ?_)⟩
    by_cases z : u = w
    · rw [z, updL_s]
    · rw [updL_n z]; exact hf u (by omega)
theorem l_fillL {k : FL → Prop} (hk : ∀ f : FL, (∀ u, u < 16 → f u = 0) → k f) : ∀ (d w : Nat) (f : FL), d + w = 16 → (∀ u, u < w → f u = 0) → p_J_fillL_L6 0 16 k (d + 1) (nI w) f
  | 0, w, f, hd, hf => by
    have : w = 16 := by omega
    subst this
    unfold p_J_fillL_L6
    exact ct (by decide) (hk f hf)
  | d + 1, w, f, hd, hf => by
    unfold p_J_fillL_L6
    have e1 : (nI w).toNatClampNeg = w := n_cl
    rw [e1, n_p1]
    refine cf (n_nle (a := 16) (by omega)) ⟨n_in (by omega), l_fillL hk d (w + 1) _ (by omega) (fun u hu => ?_)⟩
    by_cases z : u = w
    · rw [z, updL_s]
    · rw [updL_n z]; exact hf u (by omega)
/-! follows -/
def fol (A B : Nat → Int64) : Nat → Nat → Int32
  | 0, _ => 1
  | d + 1, w => if lg_cmp (A w &&& (B w ^^^ (-1))) 0 = 0 then fol A B d (w + 1) else 0
theorem l_b65 {A B : Nat → Int64} {x y z : Int32} {row T N : FL} {k : Int32 → Int32 → Int32 → Int32 → FL → FL → FL → Prop} (hT : ∀ u, u < 16 → T u = A u) (hN : ∀ u, u < 16 → N u = B u) : ∀ (d w : Nat), d + w = 16 → k (fol A B d w) x y z row T N → p_B_follows_L65 x y z row T N k (d + 1) (nI w)
  | 0, w, hd, hk => by
    have : w = 16 := by omega
    subst this
    unfold p_B_follows_L65
    exact ct (by decide) hk
  | d + 1, w, hd, hk => by
    unfold p_B_follows_L65
    have e1 : (nI w).toNatClampNeg = w := n_cl
    rw [e1, n_p1, hT w (by omega), hN w (by omega)]
    unfold fol at hk
    refine cf (n_nle (a := 16) (by omega)) ⟨n_in (by omega), fun q => ?_, fun q => ?_⟩
    · rw [if_pos q] at hk; exact l_b65 hT hN d (w + 1) (by omega) hk
    · rw [if_neg q] at hk; exact hk
theorem l_m94 {A B : Nat → Int64} {of fi : FL} {e : Nat} {k : Int32 → FL → FL → Prop} (he : e ≤ 200) (hT : ∀ u, u < 16 → fi u = A u) (hN : ∀ u, u < 16 → of (16 * e + u) = B u) : ∀ (d w : Nat), d + w = 16 → k (fol A B d w) of fi → p_M_follows_L94 (nI e) of fi k (d + 1) (nI w)
  | 0, w, hd, hk => by
    have : w = 16 := by omega
    subst this
    unfold p_M_follows_L94
    exact ct (by decide) hk
  | d + 1, w, hd, hk => by
    unfold p_M_follows_L94
    have e1 : (nI w).toNatClampNeg = w := n_cl
    have e2 : (nI (16 * e + w)).toNatClampNeg = 16 * e + w := n_cl
    rw [m16, e1, e2, n_p1, hT w (by omega), hN w (by omega)]
    unfold fol at hk
    refine cf (n_nle (a := 16) (by omega)) ⟨n_in (by omega), n_in (by omega), fun q => ?_, fun q => ?_⟩
    · rw [if_pos q] at hk; exact l_m94 he hT hN d (w + 1) (by omega) hk
    · rw [if_neg q] at hk; exact hk
theorem RCL.ctx {csz cgv cem mcl mgv mend : Int32} {cb cl cr cv cp cn cx cD mb ml mr mv mp mn mx mD : FF} (hr : RCL csz cgv cem cb cl cr cv cp cn cx cD mcl mgv mend mb ml mr mv mp mn mx mD) :
    ∃ n e : Nat, n ≤ 200 ∧ e ≤ 200 ∧ csz = nI n ∧ cem = nI e ∧ mcl = nI n ∧ mend = endOf e ∧ (e ≠ 0 → CTX n e (n, mb, ml, mr, mv, mp, mn, mx) cb cl cr cv cp cn cx cD mD) := by
  obtain ⟨n, g, e, hn, hg, rfl, rfl, rfl, rfl, rfl, rfl, hE, hF, hN, hJ⟩ := hr
  have := hF.le
  exact ⟨n, e, hn, by omega, rfl, rfl, rfl, rfl, fun h => ⟨⟨hn, fun k a b => ⟨hE.okm k a b, hJ k a b⟩⟩, rfl, by omega, by omega, hE, hN⟩⟩
theorem endOf_ne {e : Nat} (h0 : e ≠ 0) (h : e ≤ 200) : endOf e = nI e ∧ ¬ nI e = 0 ∧ ¬ nI e = -1 := by
  unfold endOf
  rw [if_neg h0]
  refine ⟨rfl, n_ne (b := 0) h0, fun q => ?_⟩
  have : (nI e).toInt = (-1 : Int32).toInt := by rw [q]
  rw [nI_toInt (by omega), i_m1] at this
  omega
theorem s_part2 {lab : FF} {sys c : Nat} {of : FL} {k : FL → Prop} (C : CTX n e t cb cl cr cv cp cn cx cD mD) (hs : sys ≤ 3)
    (hk : ∀ of : FL, (∀ i, 1 ≤ i → i ≤ n → mD i ≠ 0 → ∀ w, w < 16 → of (16 * i + w) = VE lab t n sys c i w) → k of) : p_M_partials (nI n) (cP t) (cN t) (cB t) (cL t) (cR t) (cV t) mD lab of (nI c) (nI sys) k :=
  s_partials C.1 hs C.2.1 C.2.2.2.2.1 C.2.2.2.2.2 hk
theorem s_part1 {lab : FF} {sys c : Nat} {of : FL} {k : FL → Prop} (C : CTX n e t cb cl cr cv cp cn cx cD mD) (hs : sys ≤ 3)
    (hk : ∀ of : FL, (∀ w, w < 16 → of (16 * e + w) = VE lab t n sys c e w) → k of) : p_M_partials (nI n) (cP t) (cN t) (cB t) (cL t) (cR t) (cV t) mD lab of (nI c) (nI sys) k :=
  s_part2 C hs (fun of h => hk of (h e C.2.2.1 C.2.2.2.1 (by rw [C.2.2.2.2.2.2.2.2.2.1 (by have := C.2.2.1; omega)]; decide)))
end TB
theorem s_follows {csz cgv cem mcl mgv mend x1 x2 x3 f1 f2 f3 : Int32} {cb cl cr cv cp cn cx cD mb ml mr mv mp mn mx mD of lab : FF} {row T N mo mf : FL} {K : Int32 → Int32 → Int32 → Int32 → FL → FL → FL → Int32 → FL → FL → Prop}
    (hr : RCL csz cgv cem cb cl cr cv cp cn cx cD mcl mgv mend mb ml mr mv mp mn mx mD) (hR : RL of lab) (hk : ∀ r a b c d e f g h, K r a b c d e f r g h) :
    p_B_follows csz cem cb cl cr cv cp cn cD of f1 f2 f3 row T N x1 x2 x3 (fun r a b c d e f => p_M_follows mcl mend mp mn mb ml mr mv mD lab mo mf x1 x2 x3 (fun r' g h => K r a b c d e f r' g h)) := by
  obtain ⟨n, e, hn, he, rfl, rfl, rfl, rfl, hC⟩ := hr.ctx
  unfold p_B_follows p_M_follows
  refine s_isCut (fun h1 => cf (by decide) ?_) (fun h1 => ct rfl (s_in (fun q => absurd q h1) (fun _ => ct rfl (hk _ _ _ _ _ _ _ _ _))))
  refine s_isSys (fun h2 => cf (by decide) ?_) (fun h2 => ct rfl (s_in (fun _ => cf (by decide) (s_in (fun q => absurd q h2) (fun _ => ct rfl (hk _ _ _ _ _ _ _ _ _)))) (fun q => absurd h1 q)))
  refine s_isSys (fun h3 => df (by decide) ?_) (fun h3 => dt rfl (s_in (fun _ => cf (by decide) (s_in (fun _ => cf (by decide) (s_in (fun q => absurd q h3) (fun _ => dt rfl (hk _ _ _ _ _ _ _ _ _)))) (fun q => absurd h2 q))) (fun q => absurd h1 q)))
  by_cases h0 : e = 0
  · subst h0
    exact dt rfl (s_in (fun _ => cf (by decide) (s_in (fun _ => cf (by decide) (s_in (fun _ => df (by decide) (dt rfl (hk _ _ _ _ _ _ _ _ _))) (fun q => absurd h3 q))) (fun q => absurd h2 q))) (fun q => absurd h1 q))
  · have C := hC h0
    obtain ⟨ee, e0, em⟩ := endOf_ne h0 he
    obtain ⟨c, c1, c2, rfl⟩ := inR_nat (a := 1) (b := 7) h1 (by decide) (by decide)
    obtain ⟨s1, -, s2, rfl⟩ := inR_nat (a := 0) (b := 3) h2 (by decide) (by decide)
    obtain ⟨s3, -, s4, rfl⟩ := inR_nat (a := 0) (b := 3) h3 (by decide) (by decide)
    rw [ee]
    refine df e0 (s_tabT C c2 s2 hR (fun LA LB row1 T1 hT => s_tabN C c2 s4 hR (fun LA2 LB2 row2 N1 hN => ⟨17, l_b65 hT hN 16 0 (by omega) ?_⟩)))
    refine s_in (fun _ => cf (by decide) (s_in (fun _ => cf (by decide) (s_in (fun _ => df (by decide) (df em ?_)) (fun q => absurd h3 q))) (fun q => absurd h2 q))) (fun q => absurd h1 q)
    refine s_part1 C s2 (fun of1 ho1 => ⟨17, l_f50 he (fun fi hfi => s_part1 C s4 (fun of2 ho2 => ⟨17, l_m94 he (fun u hu => (hfi u hu).trans (ho1 u hu)) ho2 16 0 (by omega) (hk _ _ _ _ _ _ _ _ _)⟩)) 16 0 mf (by omega) (fun u hu => by omega)⟩)

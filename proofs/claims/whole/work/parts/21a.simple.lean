/-! PURE: the simple calls -/
def inR (x a b : Int32) : Prop := ¬ x < a ∧ ¬ b < x
theorem s_in {x a b : Int32} {k : Int32 → Prop} (h1 : inR x a b → k 1) (h0 : ¬ inR x a b → k 0) : p_M_in x a b k := by
  unfold p_M_in
  exact ⟨fun q => h0 (fun h => h.1 q), fun q => ⟨fun q2 => h0 (fun h => h.2 q2), fun q2 => h1 ⟨q, q2⟩⟩⟩
theorem s_isVar {x : Int32} {k : Int32 → Prop} (h1 : inR x 1 10 → k 1) (h0 : ¬ inR x 1 10 → k 0) : p_B_isVariable x k := by
  unfold p_B_isVariable
  exact ⟨fun q => h0 (fun h => h.1 q), fun q => ⟨fun q2 => h0 (fun h => h.2 q2), fun q2 => h1 ⟨q, q2⟩⟩⟩
theorem s_isCut {x : Int32} {k : Int32 → Prop} (h1 : inR x 1 7 → k 1) (h0 : ¬ inR x 1 7 → k 0) : p_B_isCut x k := by
  unfold p_B_isCut
  exact ⟨fun q => h0 (fun h => h.1 q), fun q => ⟨fun q2 => h0 (fun h => h.2 q2), fun q2 => h1 ⟨q, q2⟩⟩⟩
theorem ge4 {x : Int32} : (4 : Int32) ≤ x ↔ (3 : Int32) < x := by
  have e4 : (4 : Int32).toInt = 4 := by decide
  have e3 : (3 : Int32).toInt = 3 := by decide
  rw [i_toInt_le, i_toInt_lt, e4, e3]
  omega
theorem s_isSys {x : Int32} {k : Int32 → Prop} (h1 : inR x 0 3 → k 1) (h0 : ¬ inR x 0 3 → k 0) : p_B_isSystem x k := by
  unfold p_B_isSystem
  exact ⟨fun q => h0 (fun h => h.1 q), fun q => ⟨fun q2 => h0 (fun h => h.2 (ge4.mp q2)), fun q2 => h1 ⟨q, fun h => q2 (ge4.mpr h)⟩⟩⟩
theorem inR_nat {x : Int32} {a b : Nat} (h : inR x (nI a) (nI b)) (ha : a < 2 ^ 31) (hb : b < 2 ^ 31) : ∃ j : Nat, a ≤ j ∧ j ≤ b ∧ x = nI j := by
  have h1 : (a : Int) ≤ x.toInt := by
    have := mt i_toInt_lt.mpr h.1
    rw [nI_toInt ha] at this; omega
  have h2 : x.toInt ≤ b := by
    have := mt i_toInt_lt.mpr h.2
    rw [nI_toInt hb] at this; omega
  exact ⟨x.toInt.toNat, by omega, by omega, i_ofN (by omega)⟩
/-! all of the clauses -/
/-- no clause has a literal and its opposite -/
def DJ (n : Nat) (P N : Nat → Int32) : Prop := ∀ i, 1 ≤ i → i ≤ n → P i &&& N i = 0
def RCL (csz cgv cem : Int32) (cb cl cr cv cP cN cL cD : Nat → Int32) (mcl mgv mend : Int32) (mb ml mr mv mP mN mL mD : Nat → Int32) : Prop :=
  ∃ n g e : Nat, n ≤ 200 ∧ g ≤ 60 ∧ csz = nI n ∧ cgv = nI g ∧ cem = nI e ∧ mcl = nI n ∧ mgv = nI g ∧ mend = endOf e ∧ EQc n cb cl cr cv cP cN cL mb ml mr mv mP mN mL ∧ FE n e mP mN ∧ RN n e mb ml mr cD mD ∧ DJ n mP mN
theorem OKc.cong {b l r v b' l' r' v' : Nat → Int32} {i : Nat} (h : OKc b l r v i) (h1 : b' i = b i) (h2 : l' i = l i) (h3 : r' i = r i) (h4 : v' i = v i) : OKc b' l' r' v' i := by
  unfold OKc; rw [h1, h2, h3, h4]; exact h
theorem EQc.okc {n : Nat} {cb cl cr cv cP cN cL mb ml mr mv mP mN mL : Nat → Int32} (h : EQc n cb cl cr cv cP cN cL mb ml mr mv mP mN mL) : ∀ i, 1 ≤ i → i ≤ n → OKc cb cl cr cv i := fun i h1 h2 => by
  obtain ⟨a, b, c, d, -, -, -, o⟩ := h i h1 h2
  exact o.cong a b c d
theorem EQc.okm {n : Nat} {cb cl cr cv cP cN cL mb ml mr mv mP mN mL : Nat → Int32} (h : EQc n cb cl cr cv cP cN cL mb ml mr mv mP mN mL) : ∀ i, 1 ≤ i → i ≤ n → OKc mb ml mr mv i := fun i h1 h2 => (h i h1 h2).2.2.2.2.2.2.2
theorem s_clause {csz cgv cem mcl mgv mend x1 x2 : Int32} {cb cl cr cv cP cN cL cD mb ml mr mv mP mN mL mD : Nat → Int32} {K : Int32 → Int32 → Prop} (hr : RCL csz cgv cem cb cl cr cv cP cN cL cD mcl mgv mend mb ml mr mv mP mN mL mD) (hk : ∀ r, K r r) :
    p_B_clause csz cb cl cr cv cP cN cD x1 x2 (fun r => p_M_clause mcl mP mN mb ml mr mv mD x1 x2 (fun r' => K r r')) := by
  obtain ⟨n, g, e, hn, hg, rfl, rfl, rfl, rfl, rfl, rfl, hE, hF, hN, hJ⟩ := hr
  unfold p_B_clause p_M_clause
  refine ⟨fun q => s_in (fun h => absurd q h.1) (fun _ => dt rfl (hk _)), fun q => ⟨fun q1 => ?_, fun q1 => s_in (fun h => absurd (Int32.not_lt.mp h.2) q1) (fun _ => dt rfl (hk _))⟩⟩
  have hin : inR x1 1 (nI n) := ⟨q, fun h => absurd q1 (Int32.not_le.mpr h)⟩
  obtain ⟨i, h1, h2, rfl⟩ := inR_nat (a := 1) hin (by decide) (by omega)
  obtain ⟨e1, e2, e3, e4, e5, e6, e7, -⟩ := hE i h1 h2
  have e8 := hN.1 i h1 h2
  have w1 : vp_in (nI i) 201 := n_in (by omega)
  have w2 : vp_in (nI i) 202 := n_in (by omega)
  have go : ∀ {A B : Prop}, A → p_M_in (nI i) 1 (nI n) (fun r_1 => (¬ r_1 = 0 → A) ∧ (r_1 = 0 → B)) := fun a => s_in (fun _ => df (by decide) a) (fun h => absurd hin h)
  rw [n_cl, e1, e2, e3, e4, e5, e6, e8]
  refine ⟨fun c => ⟨w1, go ?_⟩, fun c => ⟨w1, go ?_⟩, fun c => ⟨w1, go ?_⟩, fun c => ⟨w1, go ?_⟩, fun c => ⟨w1, go ?_⟩, fun c => ⟨w1, go ?_⟩, fun c => ⟨w1, ?_⟩, fun c0 c1 c2 c3 c4 c5 c6 => go ?_⟩
  · subst c; exact ⟨fun _ => ⟨w2, hk _⟩, fun c => absurd c (by decide), fun c => absurd c (by decide), fun c => absurd c (by decide), fun c => absurd c (by decide), fun c => absurd c (by decide), fun c => absurd c (by decide), fun c => absurd rfl c⟩
  · subst c; exact ⟨fun c => absurd c (by decide), fun _ => ⟨w2, hk _⟩, fun c => absurd c (by decide), fun c => absurd c (by decide), fun c => absurd c (by decide), fun c => absurd c (by decide), fun c => absurd c (by decide), fun _ c => absurd rfl c⟩
  · subst c; exact ⟨fun c => absurd c (by decide), fun c => absurd c (by decide), fun _ => ⟨w2, hk _⟩, fun c => absurd c (by decide), fun c => absurd c (by decide), fun c => absurd c (by decide), fun c => absurd c (by decide), fun _ _ c => absurd rfl c⟩
  · subst c; exact ⟨fun c => absurd c (by decide), fun c => absurd c (by decide), fun c => absurd c (by decide), fun _ => ⟨w2, hk _⟩, fun c => absurd c (by decide), fun c => absurd c (by decide), fun c => absurd c (by decide), fun _ _ _ c => absurd rfl c⟩
  · subst c; exact ⟨fun c => absurd c (by decide), fun c => absurd c (by decide), fun c => absurd c (by decide), fun c => absurd c (by decide), fun _ => ⟨w2, hk _⟩, fun c => absurd c (by decide), fun c => absurd c (by decide), fun _ _ _ _ c => absurd rfl c⟩
  · subst c; exact ⟨fun c => absurd c (by decide), fun c => absurd c (by decide), fun c => absurd c (by decide), fun c => absurd c (by decide), fun c => absurd c (by decide), fun _ => ⟨w2, hk _⟩, fun c => absurd c (by decide), fun _ _ _ _ _ c => absurd rfl c⟩
  · subst c
    exact ⟨fun z => go ⟨fun c => absurd c (by decide), fun c => absurd c (by decide), fun c => absurd c (by decide), fun c => absurd c (by decide), fun c => absurd c (by decide), fun c => absurd c (by decide), fun _ => ⟨w2, ct z (hk _)⟩, fun _ _ _ _ _ _ c => absurd rfl c⟩,
      fun z => go ⟨fun c => absurd c (by decide), fun c => absurd c (by decide), fun c => absurd c (by decide), fun c => absurd c (by decide), fun c => absurd c (by decide), fun c => absurd c (by decide), fun _ => ⟨w2, cf z (hk _)⟩, fun _ _ _ _ _ _ c => absurd rfl c⟩⟩
  · exact ⟨fun c => absurd c c0, fun c => absurd c c1, fun c => absurd c c2, fun c => absurd c c3, fun c => absurd c c4, fun c => absurd c c5, fun c => absurd c c6, fun _ _ _ _ _ _ _ => hk _⟩
theorem s_refutation {e : Nat} {K : Int32 → Int32 → Prop} (he : e ≤ 200) (hk : ∀ r, K r r) : p_B_refutation (nI e) (fun r => p_M_refutation (endOf e) (fun r' => K r r')) := by
  unfold p_B_refutation p_M_refutation endOf
  by_cases h : e = 0
  · subst h; exact dt rfl (hk _)
  · rw [if_neg h]; exact df (n_ne (a := e) (b := 0) h) (hk _)
def RL (of lab : Nat → Int32) : Prop := ∀ v, 1 ≤ v → v ≤ 10 → of v = (if lab v = 0 then 2 else lab v) ∧ (of v = 1 ∨ of v = 2 ∨ of v = 3)
theorem in13 {x : Int32} (h : inR x 1 3) : x = 1 ∨ x = 2 ∨ x = 3 := by
  obtain ⟨j, h1, h2, rfl⟩ := inR_nat (a := 1) (b := 3) h (by decide) (by decide)
  have : j = 1 ∨ j = 2 ∨ j = 3 := by omega
  rcases this with rfl | rfl | rfl
  · exact Or.inl rfl
  · exact Or.inr (Or.inl rfl)
  · exact Or.inr (Or.inr rfl)
theorem le3 {x : Int32} : x ≤ 3 ↔ ¬ (3 : Int32) < x := Int32.not_lt.symm
theorem s_label {of lab : Nat → Int32} {x1 x2 : Int32} {K : Int32 → (Nat → Int32) → Int32 → (Nat → Int32) → Prop} (hr : RL of lab) (hk : ∀ r of lab, RL of lab → K r of r lab) :
    p_B_label of x1 x2 (fun r o => p_M_label lab x1 x2 (fun r' o' => K r o r' o')) := by
  unfold p_B_label p_M_label
  refine s_isVar (fun h1 => cf (by decide) ?_) (fun h1 => ct rfl (s_in (fun h => absurd h h1) (fun _ => ct rfl (hk _ _ _ hr))))
  obtain ⟨v, v1, v2, rfl⟩ := inR_nat (a := 1) (b := 10) h1 (by decide) (by decide)
  have no : ¬ inR x2 1 3 → p_M_in (nI v) 1 10 (fun r_1 => (r_1 = 0 → K (-2) of (-2) lab) ∧ (¬ r_1 = 0 → p_M_in x2 1 3 (fun r_3 => (¬ r_3 = 0 → vp_in (nI v) 11 ∧ ((¬ lab (nI v).toNatClampNeg = 0 → K (-2) of (lab (nI v).toNatClampNeg) (upd lab (nI v).toNatClampNeg x2)) ∧ (lab (nI v).toNatClampNeg = 0 → K (-2) of 2 (upd lab (nI v).toNatClampNeg x2)))) ∧ (r_3 = 0 → K (-2) of (-2) lab)))) := fun h =>
    s_in (fun _ => cf (by decide) (s_in (fun q => absurd q h) (fun _ => dt rfl (hk _ _ _ hr)))) (fun q => absurd h1 q)
  refine ⟨fun q => no (fun h => h.1 q), fun q => ⟨fun q1 => ?_, fun q1 => no (fun h => q1 (le3.mpr h.2))⟩⟩
  have h2 : inR x2 1 3 := ⟨q, le3.mp q1⟩
  unfold p_L_exchange
  refine ⟨n_in (by omega), s_in (fun _ => cf (by decide) (s_in (fun _ => df (by decide) ⟨n_in (by omega), ?_⟩) (fun q => absurd h2 q))) (fun q => absurd h1 q)⟩
  rw [n_cl]
  have hv := hr v v1 v2
  have hnew : RL (upd of v x2) (upd lab v x2) := fun w w1 w2 => by
    by_cases e : w = v
    · subst e; rw [upd_s, upd_s]
      rcases in13 h2 with rfl | rfl | rfl <;> decide
    · rw [upd_n e, upd_n e]; exact hr w w1 w2
  refine ⟨fun z => ?_, fun z => ?_⟩
  · rw [hv.1, if_neg z]; exact hk _ _ _ hnew
  · rw [hv.1, if_pos z]; exact hk _ _ _ hnew
/-! clear -/
theorem l_fillI {x : Int32} {k : (Nat → Int32) → Prop} (hk : ∀ f' : Nat → Int32, (∀ j, j < 11 → f' j = x) → k f') : ∀ (d i : Nat) (f : Nat → Int32), d + i = 11 → (∀ j, j < i → f j = x) → p_J_fillI_L5 x (11 : Int32) k (d + 1) (nI i) f
  | 0, i, f, hd, hf => by
    have : i = 11 := by omega
    subst this
    unfold p_J_fillI_L5
    exact ct (by decide) (hk f hf)
  | d + 1, i, f, hd, hf => by
    unfold p_J_fillI_L5
    refine cf (n_nle (a := 11) (by omega)) ⟨n_in (by omega), ?_⟩
    rw [n_cl, n_p1]
    refine l_fillI hk d (i + 1) _ (by omega) (fun j hj => ?_)
    by_cases e : j = i
    · rw [e, upd_s]
    · rw [upd_n e]; exact hf j (by omega)
theorem l_clear {mc mg : Int32} {mP mN mb ml mr mD : Nat → Int32} {x1 : Int32} {k : Int32 → Int32 → Int32 → Int32 → (Nat → Int32) → (Nat → Int32) → Prop} (hk : ∀ f' : Nat → Int32, (∀ j, j < 11 → f' j = 0) → p_M_find mc mP mN mb ml mr mD (fun E D => k x1 mc mg E D f')) : ∀ (d i : Nat) (f : Nat → Int32), d + i = 11 → (∀ j, j < i → f j = 0) → p_M_clear_L17 mc mg mP mN mb ml mr mD x1 k (d + 1) (nI i) f
  | 0, i, f, hd, hf => by
    have : i = 11 := by omega
    subst this
    unfold p_M_clear_L17
    exact ct (by decide) (hk f hf)
  | d + 1, i, f, hd, hf => by
    unfold p_M_clear_L17
    refine cf (n_nle (a := 11) (by omega)) ⟨n_in (by omega), ?_⟩
    rw [n_cl, n_p1]
    refine l_clear hk d (i + 1) _ (by omega) (fun j hj => ?_)
    by_cases e : j = i
    · rw [e, upd_s]
    · rw [upd_n e]; exact hf j (by omega)
theorem s_clear {csz mcl mgv mend cgv cem : Int32} {cb cl cr cv cP cN cL cD mb ml mr mv mP mN mL mD of lab : Nat → Int32} {K : Int32 → Int32 → Int32 → Int32 → (Nat → Int32) → Int32 → Int32 → Int32 → Int32 → (Nat → Int32) → (Nat → Int32) → Prop} (hr : RCL csz cgv cem cb cl cr cv cP cN cL cD mcl mgv mend mb ml mr mv mP mN mL mD)
    (hk : ∀ r a b c of x y z D lab, RCL a b c cb cl cr cv cP cN cL cD x y z mb ml mr mv mP mN mL D → RL of lab → K r a b c of r x y z D lab) :
    p_B_clear csz of (fun r a b c o => p_M_clear mcl mP mN mb ml mr mD lab (fun r' x y z D l' => K r a b c o r' x y z D l')) := by
  obtain ⟨n, g, e, hn, hg, rfl, rfl, rfl, rfl, rfl, rfl, hE, hF, hN, hJ⟩ := hr
  unfold p_B_clear p_C_removeAll p_L_reset p_J_fillI
  refine ⟨12, l_fillI (fun f hf => ?_) 11 0 of (by omega) (fun j hj => absurd hj (Nat.not_lt_zero j))⟩
  unfold p_M_clear
  refine ⟨12, l_clear (fun f2 hf2 => ?_) 11 0 lab (by omega) (fun j hj => absurd hj (Nat.not_lt_zero j))⟩
  have hF0 : FE 0 0 mP mN := ⟨Or.inl rfl, fun i h1 h2 => by omega⟩
  refine s_find (n := 0) (v := mv) (by omega) hF0 (fun j h1 h2 => by omega) (fun g hg => hk _ _ _ _ _ _ _ _ _ _ ⟨0, 0, 0, by omega, by omega, rfl, rfl, rfl, rfl, rfl, rfl, fun i h1 h2 => by omega, hF0, ?_, fun i h1 h2 => by omega⟩ ?_)
  · refine ⟨fun i h1 h2 => by omega, fun h => absurd rfl h, fun i hi => Or.inl ?_, fun i h1 h2 => ?_, fun h => absurd rfl h, fun i h1 h2 => by omega⟩
    · show g i = 0
      rw [hg i hi, if_neg (by omega)]
    · show g i = 0
      rw [hg i h2, if_neg (by omega)]
  · intro v v1 v2
    rw [hf v (by omega), hf2 v (by omega)]
    decide
/-! counts -/
def cntN (f : Nat → Int32) : Nat → Int32
  | 0 => 0
  | n + 1 => cntN f n + (if f (n + 1) = 0 then 0 else 1)
theorem cntN_cong {f g : Nat → Int32} : ∀ n, (∀ i, 1 ≤ i → i ≤ n → f i = g i) → cntN f n = cntN g n
  | 0, _ => rfl
  | n + 1, h => by unfold cntN; rw [cntN_cong n (fun i a b => h i a (by omega)), h (n + 1) (by omega) (Nat.le_refl _)]
theorem cntN_skip {f : Nat → Int32} {e : Nat} : ∀ n, e ≤ n → (∀ i, e < i → i ≤ n → f i = 0) → cntN f n = cntN f e
  | 0, h, _ => by rw [Nat.le_zero.mp h]
  | n + 1, h, hz => by
    by_cases q : e = n + 1
    · rw [q]
    · show cntN f n + _ = _
      rw [if_pos (hz (n + 1) (by omega) (Nat.le_refl _)), cntN_skip n (by omega) (fun i a b => hz i a (by omega))]
      exact Int32.add_zero _
theorem l_live {n : Nat} {f : Nat → Int32} {k : Int32 → Prop} (hn : n ≤ 200) (hk : k (cntN f n)) : ∀ (d i : Nat), d + i = n → p_C_liveOnes_L4 (nI n) f k (d + 1) (cntN f i) (nI (i + 1))
  | 0, i, hd => by
    unfold p_C_liveOnes_L4
    refine ct (n_lt (by omega)) ?_
    have : i = n := by omega
    rw [this]; exact hk
  | d + 1, i, hd => by
    unfold p_C_liveOnes_L4
    refine cf (n_nlt (by omega)) ⟨n_in (by omega), ?_⟩
    rw [n_cl, n_p1]
    have ih := l_live hn hk d (i + 1) (by omega)
    unfold cntN at ih
    refine ⟨fun q => ?_, fun q => ?_⟩
    · rw [if_pos q] at ih; exact ih
    · rw [if_neg q] at ih; exact ih
theorem l_need {n : Nat} {f : Nat → Int32} {k : Int32 → Prop} (hn : n ≤ 200) (hk : k (cntN f n)) : ∀ (d i : Nat), d + i = n → p_C_neededOnes_L4 (nI n) f k (d + 1) (cntN f i) (nI (i + 1))
  | 0, i, hd => by
    unfold p_C_neededOnes_L4
    refine ct (n_lt (by omega)) ?_
    have : i = n := by omega
    rw [this]; exact hk
  | d + 1, i, hd => by
    unfold p_C_neededOnes_L4
    refine cf (n_nlt (by omega)) ⟨n_in (by omega), ?_⟩
    rw [n_cl, n_p1]
    have ih := l_need hn hk d (i + 1) (by omega)
    unfold cntN at ih
    refine ⟨fun q => ?_, fun q => ?_⟩
    · rw [if_pos q] at ih; exact ih
    · rw [if_neg q] at ih; exact ih
theorem l_mlive {n : Nat} {f : Nat → Int32} {k : Int32 → Prop} (hn : n ≤ 200) (hk : k (cntN f n)) : ∀ (d i : Nat), d + i = n → p_M_count_L48 (nI n) f k (d + 1) (cntN f i) (nI (i + 1))
  | 0, i, hd => by
    unfold p_M_count_L48
    refine ct (n_lt (by omega)) ?_
    have : i = n := by omega
    rw [this]; exact hk
  | d + 1, i, hd => by
    unfold p_M_count_L48
    refine cf (n_nlt (by omega)) ⟨n_in (by omega), ?_⟩
    rw [n_cl, n_p1]
    have ih := l_mlive hn hk d (i + 1) (by omega)
    unfold cntN at ih
    refine ⟨fun q => ?_, fun q => ?_⟩
    · rw [if_pos q] at ih; exact ih
    · rw [if_neg q] at ih; exact ih
theorem l_mneed {n : Nat} {f : Nat → Int32} {k : Int32 → Prop} (hn : n ≤ 200) (hk : k (cntN f n)) : ∀ (d i : Nat), d + i = n → p_M_count_L83 (nI n) f k (d + 1) (cntN f i) (nI (i + 1))
  | 0, i, hd => by
    unfold p_M_count_L83
    refine ct (n_lt (by omega)) ?_
    have : i = n := by omega
    rw [this]; exact hk
  | d + 1, i, hd => by
    unfold p_M_count_L83
    refine cf (n_nlt (by omega)) ⟨n_in (by omega), ?_⟩
    rw [n_cl, n_p1]
    have ih := l_mneed hn hk d (i + 1) (by omega)
    unfold cntN at ih
    refine ⟨fun q => ?_, fun q => ?_⟩
    · rw [if_pos q] at ih; exact ih
    · rw [if_neg q] at ih; exact ih
theorem s_count {tl mt csz cgv cem mcl mgv mend x1 : Int32} {tb mtb cb cl cr cv cP cN cL cD mb ml mr mv mP mN mL mD : Nat → Int32} {K : Int32 → Int32 → Prop} (hT : RT tl tb mt mtb) (hr : RCL csz cgv cem cb cl cr cv cP cN cL cD mcl mgv mend mb ml mr mv mP mN mL mD) (hk : ∀ r, K r r) :
    p_B_count tl csz cgv cem cL cD x1 (fun r => p_M_count mcl mgv mt mL mD x1 (fun r' => K r r')) := by
  obtain ⟨n, g, e, hn, hg, rfl, rfl, rfl, rfl, rfl, rfl, hE, hF, hN, hJ⟩ := hr
  obtain ⟨t, ht, rfl, rfl, -⟩ := hT
  have he := hF.le
  unfold p_B_count p_M_count
  refine ⟨fun c => ?_, fun c => ?_, fun c => ?_, fun c => ?_, fun c => ?_, fun c0 c1 c2 c3 c4 => ?_⟩
  · subst c; exact ⟨fun _ => hk _, fun c => absurd c (by decide), fun c => absurd c (by decide), fun c => absurd c (by decide), fun c => absurd c (by decide), fun c => absurd rfl c⟩
  · subst c; exact ⟨fun c => absurd c (by decide), fun _ => hk _, fun c => absurd c (by decide), fun c => absurd c (by decide), fun c => absurd c (by decide), fun _ c => absurd rfl c⟩
  · subst c
    unfold p_C_liveOnes
    refine ⟨n + 1, l_live hn ?_ n 0 (by omega)⟩
    refine ⟨fun c => absurd c (by decide), fun c => absurd c (by decide), fun _ => ⟨n + 1, l_mlive hn ?_ n 0 (by omega)⟩, fun c => absurd c (by decide), fun c => absurd c (by decide), fun _ _ c => absurd rfl c⟩
    rw [cntN_cong n (fun i a b => (hE i a b).2.2.2.2.2.2.1)]
    exact hk _
  · subst c
    unfold p_C_neededOnes
    refine ⟨e + 1, l_need (by omega) ?_ e 0 (by omega)⟩
    refine ⟨fun c => absurd c (by decide), fun c => absurd c (by decide), fun c => absurd c (by decide), fun _ => ⟨n + 1, l_mneed hn ?_ n 0 (by omega)⟩, fun c => absurd c (by decide), fun _ _ _ c => absurd rfl c⟩
    rw [cntN_skip n he (fun i a b => hN.2.2.2.1 i a (by omega)), cntN_cong e (fun i a b => hN.1 i a (by omega))]
    exact hk _
  · subst c; exact ⟨fun c => absurd c (by decide), fun c => absurd c (by decide), fun c => absurd c (by decide), fun c => absurd c (by decide), fun _ => hk _, fun _ _ _ _ c => absurd rfl c⟩
  · exact ⟨fun c => absurd c c0, fun c => absurd c c1, fun c => absurd c c2, fun c => absurd c c3, fun c => absurd c c4, fun _ _ _ _ _ => hk _⟩
/-! variables -/
def occ (P N : Nat → Int32) (s : Nat → Prop) [∀ i, Decidable (s i)] : Nat → Int32
  | 0 => 0
  | n + 1 => if s (n + 1) then occ P N s n ||| (P (n + 1) ||| N (n + 1)) else occ P N s n
theorem l_occ {n : Nat} {cb cP cN P N : Nat → Int32} {fr to : Int32} {s : Nat → Prop} [∀ i, Decidable (s i)] {k : Int32 → Prop} (hn : n ≤ 200) (hs : ∀ i, 1 ≤ i → i ≤ n → (s i ↔ ¬ cb i = 0 ∧ ¬ cb i < fr ∧ ¬ to < cb i)) (hP : ∀ i, 1 ≤ i → i ≤ n → cP i = P i ∧ cN i = N i) (hk : k (occ P N s n)) : ∀ (d i : Nat), d + i = n → p_C_occurring_L5 (nI n) cb cP cN fr to k (d + 1) (occ P N s i) (nI (i + 1))
  | 0, i, hd => by
    unfold p_C_occurring_L5
    refine ct (n_lt (by omega)) ?_
    have : i = n := by omega
    rw [this]; exact hk
  | d + 1, i, hd => by
    unfold p_C_occurring_L5 p_C_isGivenOf
    have ih := l_occ hn hs hP hk d (i + 1) (by omega)
    unfold occ at ih
    have hsi := hs (i + 1) (by omega) (by omega)
    refine cf (n_nlt (by omega)) ⟨n_in (by omega), ?_⟩
    rw [n_cl, n_p1]
    refine ⟨fun q => ct rfl ?_, fun q => ⟨fun q2 => ct rfl ?_, fun q2 => ⟨fun q3 => ct rfl ?_, fun q3 => cf (by decide) ⟨n_in (by omega), fun v hv => ?_⟩⟩⟩⟩
    · rw [if_neg (fun h => (hsi.mp h).1 q)] at ih; exact ih
    · rw [if_neg (fun h => (hsi.mp h).2.1 q2)] at ih; exact ih
    · rw [if_neg (fun h => (hsi.mp h).2.2 q3)] at ih; exact ih
    · rw [if_pos (hsi.mpr ⟨q, q2, q3⟩)] at ih
      rw [hv, (hP _ (by omega) (by omega)).1, (hP _ (by omega) (by omega)).2]; exact ih
theorem s_occ {n : Nat} {cb cP cN P N : Nat → Int32} {fr to : Int32} {s : Nat → Prop} [∀ i, Decidable (s i)] {k : Int32 → Prop} (hn : n ≤ 200) (hs : ∀ i, 1 ≤ i → i ≤ n → (s i ↔ ¬ cb i = 0 ∧ ¬ cb i < fr ∧ ¬ to < cb i)) (hP : ∀ i, 1 ≤ i → i ≤ n → cP i = P i ∧ cN i = N i) (hk : k (occ P N s n)) : p_C_occurring (nI n) cb cP cN fr to k := by
  unfold p_C_occurring
  exact ⟨n + 1, l_occ hn hs hP hk n 0 (by omega)⟩
theorem l_vof {n : Nat} {mb P N : Nat → Int32} {bh cut : Int32} {s : Nat → Prop} [∀ i, Decidable (s i)] {k : Int32 → Prop} (hn : n ≤ 200) (hs : ∀ i, 1 ≤ i → i ≤ n → (s i ↔ ¬ mb i ≤ 0 ∧ (if mb i ≤ cut then (0 : Int32) else 1) = bh)) (hk : k (occ P N s n)) : ∀ (d i : Nat), d + i = n → p_M_variablesOf_L5 (nI n) P N mb bh cut k (d + 1) (occ P N s i) (nI (i + 1))
  | 0, i, hd => by
    unfold p_M_variablesOf_L5
    refine ct (n_lt (by omega)) ?_
    have : i = n := by omega
    rw [this]; exact hk
  | d + 1, i, hd => by
    unfold p_M_variablesOf_L5 p_M_variablesOf_J40
    have ih := l_vof hn hs hk d (i + 1) (by omega)
    unfold occ at ih
    have hsi := hs (i + 1) (by omega) (by omega)
    refine cf (n_nlt (by omega)) ⟨n_in (by omega), ?_⟩
    rw [n_cl, n_p1]
    refine ⟨fun q => ?_, fun q => ⟨fun q2 => ⟨fun q3 => ?_, fun q3 => ⟨n_in (by omega), fun v hv => ?_⟩⟩, fun q2 => ⟨fun q3 => ?_, fun q3 => ⟨n_in (by omega), fun v hv => ?_⟩⟩⟩⟩
    · rw [if_neg (fun h => (hsi.mp h).1 q)] at ih; exact ih
    · rw [if_neg (fun h => q3 (by have := (hsi.mp h).2; rw [if_pos q2] at this; exact this))] at ih; exact ih
    · rw [if_pos (hsi.mpr ⟨q, by rw [if_pos q2]; exact q3⟩)] at ih; rw [hv]; exact ih
    · rw [if_neg (fun h => q3 (by have := (hsi.mp h).2; rw [if_neg q2] at this; exact this))] at ih; exact ih
    · rw [if_pos (hsi.mpr ⟨q, by rw [if_neg q2]; exact q3⟩)] at ih; rw [hv]; exact ih
theorem s_vof {n : Nat} {mb P N : Nat → Int32} {bh cut : Int32} {s : Nat → Prop} [∀ i, Decidable (s i)] {k : Int32 → Prop} (hn : n ≤ 200) (hs : ∀ i, 1 ≤ i → i ≤ n → (s i ↔ ¬ mb i ≤ 0 ∧ (if mb i ≤ cut then (0 : Int32) else 1) = bh)) (hk : k (occ P N s n)) : p_M_variablesOf (nI n) P N mb bh cut k := by
  unfold p_M_variablesOf
  exact ⟨n + 1, l_vof hn hs hk n 0 (by omega)⟩
/-- the variables ahead of a cut, and those behind it -/
def sA (mb : Nat → Int32) (c : Nat) (i : Nat) : Prop := ¬ mb i = 0 ∧ mb i ≤ nI c
def sB (mb : Nat → Int32) (c : Nat) (i : Nat) : Prop := ¬ mb i = 0 ∧ ¬ mb i ≤ nI c
theorem sA_c {cb mb l r v : Nat → Int32} {c i : Nat} (e : cb i = mb i) (ok : OKc mb l r v i) : sA mb c i ↔ ¬ cb i = 0 ∧ ¬ cb i < 1 ∧ ¬ nI c < cb i := by
  unfold sA
  rw [e]
  obtain ⟨k, hk, h⟩ := ok.blk
  rw [h]
  constructor
  · rintro ⟨h1, h2⟩
    refine ⟨h1, ?_, Int32.not_lt.mpr h2⟩
    refine n_nlt (b := 1) ?_
    rcases Nat.eq_zero_or_pos k with q | q
    · rw [q] at h1; exact absurd rfl h1
    · exact q
  · rintro ⟨h1, h2, h3⟩
    exact ⟨h1, Int32.not_lt.mp h3⟩
theorem sB_c {cb mb l r v : Nat → Int32} {c i : Nat} (hc : c ≤ 7) (e : cb i = mb i) (ok : OKc mb l r v i) : sB mb c i ↔ ¬ cb i = 0 ∧ ¬ cb i < nI c + 1 ∧ ¬ (8 : Int32) < cb i := by
  unfold sB
  rw [e, n_p1]
  obtain ⟨k, hk, h⟩ := ok.blk
  rw [h, nI_leI (by omega) (by omega), nI_ltI (by omega) (by omega)]
  have h8 : ¬ (8 : Int32) < nI k := n_nlt (a := 8) hk
  constructor
  · rintro ⟨h1, h2⟩
    exact ⟨h1, by omega, h8⟩
  · rintro ⟨h1, h2, h3⟩
    exact ⟨h1, by omega⟩
theorem b_le0 {mb l r v : Nat → Int32} {i : Nat} (ok : OKc mb l r v i) : mb i ≤ 0 ↔ mb i = 0 := by
  obtain ⟨k, hk, h⟩ := ok.blk
  rw [h]
  constructor
  · intro q
    have : k ≤ 0 := (nI_leI (b := 0) (by omega) (by omega)).mp q
    rw [Nat.le_zero.mp this]; rfl
  · intro q; rw [q]; decide
theorem sA_m {mb l r v : Nat → Int32} {c i : Nat} (ok : OKc mb l r v i) : sA mb c i ↔ ¬ mb i ≤ 0 ∧ (if mb i ≤ nI c then (0 : Int32) else 1) = 0 := by
  unfold sA
  rw [b_le0 ok]
  constructor
  · rintro ⟨h1, h2⟩; exact ⟨h1, by rw [if_pos h2]⟩
  · rintro ⟨h1, h2⟩
    refine ⟨h1, ?_⟩
    by_cases q : mb i ≤ nI c
    · exact q
    · rw [if_neg q] at h2; exact absurd h2 (by decide)
theorem sB_m {mb l r v : Nat → Int32} {c i : Nat} (ok : OKc mb l r v i) : sB mb c i ↔ ¬ mb i ≤ 0 ∧ (if mb i ≤ nI c then (0 : Int32) else 1) = 1 := by
  unfold sB
  rw [b_le0 ok]
  constructor
  · rintro ⟨h1, h2⟩; exact ⟨h1, by rw [if_neg h2]⟩
  · rintro ⟨h1, h2⟩
    refine ⟨h1, fun q => ?_⟩
    rw [if_pos q] at h2; exact absurd h2 (by decide)
noncomputable def occA (P N mb : Nat → Int32) (c n : Nat) : Int32 := @occ P N (sA mb c) (fun _ => Classical.propDecidable _) n
noncomputable def occB (P N mb : Nat → Int32) (c n : Nat) : Int32 := @occ P N (sB mb c) (fun _ => Classical.propDecidable _) n
section VR
variable {n c : Nat} {cb cl cr cv cP cN cL mb ml mr mv mP mN mL : Nat → Int32} {k : Int32 → Prop}
theorem c_occA (hn : n ≤ 200) (hE : EQc n cb cl cr cv cP cN cL mb ml mr mv mP mN mL) (hk : k (occA mP mN mb c n)) : p_C_occurring (nI n) cb cP cN 1 (nI c) k :=
  @s_occ n cb cP cN mP mN 1 (nI c) (sA mb c) (fun _ => Classical.propDecidable _) k hn (fun i a b => sA_c (hE i a b).1 (hE.okm i a b)) (fun i a b => ⟨(hE i a b).2.2.2.2.1, (hE i a b).2.2.2.2.2.1⟩) hk
theorem c_occB (hn : n ≤ 200) (hc : c ≤ 7) (hE : EQc n cb cl cr cv cP cN cL mb ml mr mv mP mN mL) (hk : k (occB mP mN mb c n)) : p_C_occurring (nI n) cb cP cN (nI c + 1) 8 k :=
  @s_occ n cb cP cN mP mN (nI c + 1) 8 (sB mb c) (fun _ => Classical.propDecidable _) k hn (fun i a b => sB_c hc (hE i a b).1 (hE.okm i a b)) (fun i a b => ⟨(hE i a b).2.2.2.2.1, (hE i a b).2.2.2.2.2.1⟩) hk
theorem m_occA (hn : n ≤ 200) (hE : EQc n cb cl cr cv cP cN cL mb ml mr mv mP mN mL) (hk : k (occA mP mN mb c n)) : p_M_variablesOf (nI n) mP mN mb 0 (nI c) k :=
  @s_vof n mb mP mN 0 (nI c) (sA mb c) (fun _ => Classical.propDecidable _) k hn (fun i a b => sA_m (hE.okm i a b)) hk
theorem m_occB (hn : n ≤ 200) (hE : EQc n cb cl cr cv cP cN cL mb ml mr mv mP mN mL) (hk : k (occB mP mN mb c n)) : p_M_variablesOf (nI n) mP mN mb 1 (nI c) k :=
  @s_vof n mb mP mN 1 (nI c) (sB mb c) (fun _ => Classical.propDecidable _) k hn (fun i a b => sB_m (hE.okm i a b)) hk
end VR
theorem s_variables {csz cgv cem mcl mgv mend x1 x2 : Int32} {cb cl cr cv cP cN cL cD mb ml mr mv mP mN mL mD : Nat → Int32} {K : Int32 → Int32 → Prop} (hr : RCL csz cgv cem cb cl cr cv cP cN cL cD mcl mgv mend mb ml mr mv mP mN mL mD) (hk : ∀ r, K r r) :
    p_B_variables csz cb cP cN x1 x2 (fun r => p_M_variables mcl mP mN mb x1 x2 (fun r' => K r r')) := by
  obtain ⟨n, g, e, hn, hg, rfl, rfl, rfl, rfl, rfl, rfl, hE, hF, hN, hJ⟩ := hr
  unfold p_B_variables p_M_variables
  refine s_isCut (fun h => df (by decide) ?_) (fun h => dt rfl (s_in (fun q => absurd q h) (fun _ => dt rfl (hk _))))
  obtain ⟨c, c1, c2, rfl⟩ := inR_nat (a := 1) (b := 7) h (by decide) (by decide)
  refine c_occA hn hE (c_occB hn c2 hE ?_)
  have go : ∀ r, (p_M_variablesOf (nI n) mP mN mb 0 (nI c) (fun r_3 => p_M_variablesOf (nI n) mP mN mb 1 (nI c) (fun r_4 => (¬ x2 = 0 → (¬ x2 = 1 → (¬ x2 = 2 → K r (-1)) ∧ (x2 = 2 → K r (r_3 &&& r_4))) ∧ (x2 = 1 → K r r_4)) ∧ (x2 = 0 → K r r_3)))) → p_M_in (nI c) 1 7 (fun r_1 => (¬ r_1 = 0 → (p_M_variablesOf (nI n) mP mN mb 0 (nI c) (fun r_3 => p_M_variablesOf (nI n) mP mN mb 1 (nI c) (fun r_4 => (¬ x2 = 0 → (¬ x2 = 1 → (¬ x2 = 2 → K r (-1)) ∧ (x2 = 2 → K r (r_3 &&& r_4))) ∧ (x2 = 1 → K r r_4)) ∧ (x2 = 0 → K r r_3))))) ∧ (r_1 = 0 → K r (-2))) :=
    fun r hh => s_in (fun _ => df (by decide) hh) (fun q => absurd h q)
  refine ⟨fun q => go _ (m_occA hn hE (m_occB hn hE (dt q (hk _)))), fun q => go _ (m_occA hn hE (m_occB hn hE (df (by rw [q]; decide) (dt q (hk _))))), fun q => go _ (m_occA hn hE (m_occB hn hE (df (by rw [q]; decide) (df (by rw [q]; decide) (dt q (hk _)))))), fun q0 q1 q2 => go _ (m_occA hn hE (m_occB hn hE (df q0 (df q1 (df q2 (hk _))))))⟩

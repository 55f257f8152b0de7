/-! PURE: truth words, sums of literals, labels -/
def tv (v w : Nat) : Int64 := if v ≤ 6 then pt6 (v - 1) else if ((nI w >>> ((nI v - 7) &&& 31)) &&& 1) = 0 then 0 else -1
theorem v_10 {v : Nat} (h1 : 1 ≤ v) (h2 : v ≤ 10) : v = 1 ∨ v = 2 ∨ v = 3 ∨ v = 4 ∨ v = 5 ∨ v = 6 ∨ v = 7 ∨ v = 8 ∨ v = 9 ∨ v = 10 := by omega
theorem s_ofVar {v w : Nat} {k : Int64 → Prop} (h1 : 1 ≤ v) (h2 : v ≤ 10) (hk : k (tv v w)) : p_U_ofVariable (nI v) (nI w) k := by
  unfold p_U_ofVariable
  unfold tv at hk
  refine cf (n_nlt (b := 1) h1) ⟨fun q => ?_, fun q => ?_⟩
  · have h7 : ¬ v ≤ 6 := fun h => absurd q (n_nlt (a := 6) h)
    rw [if_neg h7] at hk
    have e : nI v - 1 - 6 = nI v - 7 := by
      rcases v_10 h1 h2 with rfl | rfl | rfl | rfl | rfl | rfl | rfl | rfl | rfl | rfl <;> decide
    rw [e]
    refine ⟨fun z => ?_, fun z => ?_⟩
    · rw [if_neg z] at hk; exact hk
    · rw [if_pos z] at hk; exact hk
  · have h6 : v ≤ 6 := by
      rcases Nat.lt_or_ge 6 v with z | z
      · exact absurd (n_lt (a := 6) z) q
      · exact z
    rw [if_pos h6] at hk
    have e : nI v - 1 = nI (v - 1) := by rw [show v = (v - 1) + 1 by omega]; exact nI_pred (v - 1)
    rw [e]
    refine ⟨n_in (by omega), ?_⟩
    rw [n_cl]; exact hk
theorem s_word {v w : Nat} {k : Int64 → Prop} (h1 : 1 ≤ v) (h2 : v ≤ 10) (hk : k (tv v w)) : p_M_word (nI v) (nI w) k := by
  unfold p_M_word
  unfold tv at hk
  rcases v_10 h1 h2 with rfl | rfl | rfl | rfl | rfl | rfl | rfl | rfl | rfl | rfl
  · exact ⟨fun _ => hk, fun q => absurd q (by decide), fun q => absurd q (by decide), fun q => absurd q (by decide), fun q => absurd q (by decide), fun q => absurd q (by decide), fun q => absurd rfl q⟩
  · exact ⟨fun q => absurd q (by decide), fun _ => hk, fun q => absurd q (by decide), fun q => absurd q (by decide), fun q => absurd q (by decide), fun q => absurd q (by decide), fun _ q => absurd rfl q⟩
  · exact ⟨fun q => absurd q (by decide), fun q => absurd q (by decide), fun _ => hk, fun q => absurd q (by decide), fun q => absurd q (by decide), fun q => absurd q (by decide), fun _ _ q => absurd rfl q⟩
  · exact ⟨fun q => absurd q (by decide), fun q => absurd q (by decide), fun q => absurd q (by decide), fun _ => hk, fun q => absurd q (by decide), fun q => absurd q (by decide), fun _ _ _ q => absurd rfl q⟩
  · exact ⟨fun q => absurd q (by decide), fun q => absurd q (by decide), fun q => absurd q (by decide), fun q => absurd q (by decide), fun _ => hk, fun q => absurd q (by decide), fun _ _ _ _ q => absurd rfl q⟩
  · exact ⟨fun q => absurd q (by decide), fun q => absurd q (by decide), fun q => absurd q (by decide), fun q => absurd q (by decide), fun q => absurd q (by decide), fun _ => hk, fun _ _ _ _ _ q => absurd rfl q⟩
  all_goals
    rw [if_neg (by decide)] at hk
    refine ⟨fun q => absurd q (by decide), fun q => absurd q (by decide), fun q => absurd q (by decide), fun q => absurd q (by decide), fun q => absurd q (by decide), fun q => absurd q (by decide), fun _ _ _ _ _ _ => ⟨fun z => ?_, fun z => ?_⟩⟩
    · rw [if_pos z] at hk; exact hk
    · rw [if_neg z] at hk; exact hk
/-- that one of these literals is true -/
def anyS (P N : Nat → Bool) (w : Nat) : Nat → Int64
  | 0 => 0
  | v + 1 => (if N (v + 1) = true then (if P (v + 1) = true then anyS P N w v ||| tv (v + 1) w else anyS P N w v) ||| (tv (v + 1) w ^^^ (-1)) else (if P (v + 1) = true then anyS P N w v ||| tv (v + 1) w else anyS P N w v))
theorem anyS_cong {P N P' N' : Nat → Bool} {w : Nat} : ∀ m, (∀ v, 1 ≤ v → v ≤ m → P v = P' v ∧ N v = N' v) → anyS P N w m = anyS P' N' w m
  | 0, _ => rfl
  | m + 1, h => by
    unfold anyS
    rw [anyS_cong m (fun v a b => h v a (by omega)), (h (m + 1) (by omega) (Nat.le_refl _)).1, (h (m + 1) (by omega) (Nat.le_refl _)).2]
theorem l_any {P N : Int32} {w : Nat} {k : Int64 → Prop} (hk : k (anyS (bt P) (bt N) w 10)) : ∀ (d v : Nat), d + v = 10 → p_U_ofAny_L5 P N (nI w) k (d + 1) (anyS (bt P) (bt N) w v) (nI (v + 1))
  | 0, v, hd => by
    have : v = 10 := by omega
    subst this
    unfold p_U_ofAny_L5
    exact ct (by decide) hk
  | d + 1, v, hd => by
    have ih := l_any hk d (v + 1) (by omega)
    unfold anyS at ih
    have hv1 : 1 ≤ v + 1 := by omega
    have hv2 : v + 1 ≤ 10 := by omega
    unfold p_U_ofAny_L5 p_B_bitOf p_U_ofAny_J31 p_B_bitOf
    rw [n_p1]
    refine cf (n_nlt (a := 10) (b := v + 1) hv2) ⟨fun q => ⟨fun q2 => ?_, fun q2 => s_ofVar hv1 hv2 ?_⟩, fun q => s_ofVar hv1 hv2 ⟨fun q2 => ?_, fun q2 => s_ofVar hv1 hv2 ?_⟩⟩
    · rw [if_neg (by rw [(bv_and hv1 hv2).mp q2]; decide), if_neg (by rw [(bv_and hv1 hv2).mp q]; decide)] at ih; exact ih
    · rw [if_pos ((bv_and' hv1 hv2).mp q2), if_neg (by rw [(bv_and hv1 hv2).mp q]; decide)] at ih; exact ih
    · rw [if_neg (by rw [(bv_and hv1 hv2).mp q2]; decide), if_pos ((bv_and' hv1 hv2).mp q)] at ih; exact ih
    · rw [if_pos ((bv_and' hv1 hv2).mp q2), if_pos ((bv_and' hv1 hv2).mp q)] at ih; exact ih
theorem s_any {P N : Int32} {w : Nat} {k : Int64 → Prop} (hk : k (anyS (bt P) (bt N) w 10)) : p_U_ofAny P N (nI w) k := by
  unfold p_U_ofAny
  exact ⟨11, l_any hk 10 0 (by omega)⟩
theorem sh_bt {x : Int32} {v : Nat} (h1 : 1 ≤ v) (h2 : v ≤ 10) : ((x >>> ((nI v - 1) &&& 31)) &&& 1) = 0 ↔ bt x v = false := by
  have e1 : (1 : Int32) = bv 1 := by decide
  rw [show ((x >>> ((nI v - 1) &&& 31)) &&& 1) = ((x >>> ((nI v - 1) &&& 31)) &&& bv 1) by rw [← e1], bv_and (by decide) (by decide)]
  have : bt (x >>> ((nI v - 1) &&& 31)) 1 = bt x v := by
    unfold bt
    rcases v_10 h1 h2 with rfl | rfl | rfl | rfl | rfl | rfl | rfl | rfl | rfl | rfl
    · have e : ((nI 1 - 1) &&& 31) = 0 := by decide
      rw [e]; simp
    · have e : ((nI 2 - 1) &&& 31) = 1 := by decide
      rw [e]; simp [BitVec.getElem_sshiftRight]
    · have e : ((nI 3 - 1) &&& 31) = 2 := by decide
      rw [e]; simp [BitVec.getElem_sshiftRight]
    · have e : ((nI 4 - 1) &&& 31) = 3 := by decide
      rw [e]; simp [BitVec.getElem_sshiftRight]
    · have e : ((nI 5 - 1) &&& 31) = 4 := by decide
      rw [e]; simp [BitVec.getElem_sshiftRight]
    · have e : ((nI 6 - 1) &&& 31) = 5 := by decide
      rw [e]; simp [BitVec.getElem_sshiftRight]
    · have e : ((nI 7 - 1) &&& 31) = 6 := by decide
      rw [e]; simp [BitVec.getElem_sshiftRight]
    · have e : ((nI 8 - 1) &&& 31) = 7 := by decide
      rw [e]; simp [BitVec.getElem_sshiftRight]
    · have e : ((nI 9 - 1) &&& 31) = 8 := by decide
      rw [e]; simp [BitVec.getElem_sshiftRight]
    · have e : ((nI 10 - 1) &&& 31) = 9 := by decide
      rw [e]; simp [BitVec.getElem_sshiftRight]
  rw [this]
/-- a variable's label: 1 a, 2 b, 3 ab -/
def labS (lab : Nat → Int32) (a b : Int32) (sys : Nat) (v : Nat) : Int32 := if bt b v = false then 1 else if bt a v = false then 2 else if sys = 0 then 2 else if sys = 1 then 3 else if sys = 2 then 1 else if lab v = 0 then 2 else lab v
theorem s_labelOf {lab : Nat → Int32} {a b : Int32} {sys v : Nat} {k : Int32 → Prop} (hs : sys ≤ 3) (h1 : 1 ≤ v) (h2 : v ≤ 10) (hk : k (labS lab a b sys v)) : p_M_labelOf lab (nI v) a b (nI sys) k := by
  unfold p_M_labelOf
  unfold labS at hk
  refine ⟨fun q => ?_, fun q => ?_⟩
  · have q : bt b v = true := (bv_and' h1 h2).mp q
    rw [if_neg (by rw [q]; decide)] at hk
    refine ⟨fun q2 => ?_, fun q2 => ?_⟩
    · have q2 : bt a v = true := (bv_and' h1 h2).mp q2
      rw [if_neg (by rw [q2]; decide)] at hk
      have h4 : sys = 0 ∨ sys = 1 ∨ sys = 2 ∨ sys = 3 := by omega
      rcases h4 with rfl | rfl | rfl | rfl
      · exact dt rfl hk
      · exact df (by decide) (dt rfl hk)
      · exact df (by decide) (df (by decide) (dt rfl hk))
      · rw [if_neg (by decide), if_neg (by decide), if_neg (by decide)] at hk
        refine df (by decide) (df (by decide) (df (by decide) ⟨n_in (by omega), ?_⟩))
        rw [n_cl]
        refine ⟨fun z => ?_, fun z => ?_⟩
        · rw [if_neg z] at hk; exact hk
        · rw [if_pos z] at hk; exact hk
    · rw [if_pos ((bv_and h1 h2).mp q2)] at hk; exact hk
  · rw [if_pos ((bv_and h1 h2).mp q)] at hk; exact hk
/-- which literals the reference's sum takes: all (l = 0), or those with the label l -/
def selS (lab : Nat → Int32) (a b : Int32) (sys : Nat) (l : Int32) (x : Int32) (v : Nat) : Bool := (decide (l = 0) || decide (labS lab a b sys v = l)) && bt x v
theorem ls_sum {P N lab : Nat → Int32} {i w sys : Nat} {l a b : Int32} {k : Int64 → Prop} (hi : i ≤ 200) (hs : sys ≤ 3) (hk : k (anyS (selS lab a b sys l (P i)) (selS lab a b sys l (N i)) w 10)) : ∀ (d v : Nat), d + v = 10 → p_M_sum_L6 P N lab (nI i) (nI w) l a b (nI sys) k (d + 1) (anyS (selS lab a b sys l (P i)) (selS lab a b sys l (N i)) w v) (nI (v + 1))
  | 0, v, hd => by
    have : v = 10 := by omega
    subst this
    unfold p_M_sum_L6
    exact ct (by decide) hk
  | d + 1, v, hd => by
    have ih := ls_sum hi hs hk d (v + 1) (by omega)
    unfold anyS at ih
    have hv1 : 1 ≤ v + 1 := by omega
    have hv2 : v + 1 ≤ 10 := by omega
    have hcl : (nI i).toNatClampNeg = i := n_cl
    have go : (l = 0 ∨ labS lab a b sys (v + 1) = l) → p_M_sum_J36 P N (p_M_sum_L6 P N lab (nI i) (nI w) l a b (nI sys) k (d + 1)) (nI i) (nI w) l a b (nI sys) (anyS (selS lab a b sys l (P i)) (selS lab a b sys l (N i)) w v) (nI (v + 1)) := fun h => by
      have e : ∀ x, selS lab a b sys l x (v + 1) = bt x (v + 1) := fun x => by
        unfold selS
        rcases h with h | h <;> simp [h]
      rw [e, e] at ih
      unfold p_M_sum_J36 p_M_sum_J63
      rw [n_p1, hcl]
      refine ⟨n_in (by omega), fun q => ⟨n_in (by omega), fun q2 => ?_, fun q2 => s_word hv1 hv2 ?_⟩, fun q => s_word hv1 hv2 ⟨n_in (by omega), fun q2 => ?_, fun q2 => s_word hv1 hv2 ?_⟩⟩
      · rw [if_neg (by rw [(sh_bt hv1 hv2).mp q2]; decide), if_neg (by rw [(sh_bt hv1 hv2).mp q]; decide)] at ih; exact ih
      · rw [if_pos (by have := mt (sh_bt hv1 hv2).mpr q2; simpa using this), if_neg (by rw [(sh_bt hv1 hv2).mp q]; decide)] at ih; exact ih
      · rw [if_neg (by rw [(sh_bt hv1 hv2).mp q2]; decide), if_pos (by have := mt (sh_bt hv1 hv2).mpr q; simpa using this)] at ih; exact ih
      · rw [if_pos (by have := mt (sh_bt hv1 hv2).mpr q2; simpa using this), if_pos (by have := mt (sh_bt hv1 hv2).mpr q; simpa using this)] at ih; exact ih
    unfold p_M_sum_L6
    rw [n_p1]
    refine cf (n_nlt (a := 10) (b := v + 1) hv2) ⟨fun q => go (Or.inl q), fun q => s_labelOf hs hv1 hv2 ⟨fun q2 => go (Or.inr q2), fun q2 => ?_⟩⟩
    have e : ∀ x, selS lab a b sys l x (v + 1) = false := fun x => by unfold selS; simp [q, q2]
    rw [e, e, if_neg (by decide), if_neg (by decide)] at ih
    exact ih
theorem s_sum {P N lab : Nat → Int32} {i w sys : Nat} {l a b : Int32} {k : Int64 → Prop} (hi : i ≤ 200) (hs : sys ≤ 3) (hk : k (anyS (selS lab a b sys l (P i)) (selS lab a b sys l (N i)) w 10)) : p_M_sum P N lab (nI i) (nI w) l a b (nI sys) k := by
  unfold p_M_sum
  exact ⟨11, ls_sum hi hs hk 10 0 (by omega)⟩
/-! the class's masks -/
theorem bt_not (x : Int32) {v : Nat} (h1 : 1 ≤ v) (h2 : v ≤ 10) : bt (x ^^^ (-1)) v = !bt x v := by
  unfold bt
  rw [Int32.toBitVec_xor, BitVec.getLsbD_xor]
  have : (-1 : Int32).toBitVec = BitVec.allOnes 32 := by decide
  rw [this, BitVec.getLsbD_allOnes]
  have : v - 1 < 32 := by omega
  simp [this]
theorem bt_1023 {v : Nat} (h1 : 1 ≤ v) (h2 : v ≤ 10) : bt 1023 v = true := by
  unfold bt
  rcases v_10 h1 h2 with rfl | rfl | rfl | rfl | rfl | rfl | rfl | rfl | rfl | rfl <;> decide
theorem bt_0 (v : Nat) : bt 0 v = false := by unfold bt; simp
theorem bt_bv {v u : Nat} (h1 : 1 ≤ v) (h2 : v ≤ 10) (g1 : 1 ≤ u) (g2 : u ≤ 10) : bt (bv u) v = decide (v = u) := by
  unfold bt
  rw [bv_pow g1 g2, BitVec.getLsbD_twoPow]
  by_cases e : v = u
  · subst e; simp; omega
  · have : ¬ u - 1 = v - 1 := by omega
    simp [e, this]
theorem l_hav {of : Nat → Int32} {l : Int32} {k : Int32 → Prop} (hk : ∀ x, (∀ v, 1 ≤ v → v ≤ 10 → bt x v = decide (of v = l)) → k x) : ∀ (d u : Nat) (x : Int32), d + u = 10 → (∀ v, 1 ≤ v → v ≤ 10 → bt x v = (decide (v ≤ u) && decide (of v = l))) → p_L_having_L4 of l k (d + 1) x (nI (u + 1))
  | 0, u, x, hd, hx => by
    have : u = 10 := by omega
    subst this
    unfold p_L_having_L4
    exact ct (by decide) (hk x (fun v a b => by rw [hx v a b]; simp [b]))
  | d + 1, u, x, hd, hx => by
    unfold p_L_having_L4 p_B_bitOf
    refine cf (n_nlt (a := 10) (b := u + 1) (by omega)) ⟨n_in (by omega), ?_⟩
    rw [n_cl, n_p1]
    refine ⟨fun q => l_hav hk d (u + 1) x (by omega) (fun v a b => ?_), fun q => l_hav hk d (u + 1) _ (by omega) (fun v a b => ?_)⟩
    · rw [hx v a b]
      by_cases e : v = u + 1
      · subst e; simp [q]
      · have : (v ≤ u) ↔ (v ≤ u + 1) := by omega
        simp [this]
    · show bt (x ||| bv (u + 1)) v = _
      rw [bt_or, hx v a b, bt_bv a b (by omega) (by omega)]
      by_cases e : v = u + 1
      · subst e; simp [q]
      · have : (v ≤ u) ↔ (v ≤ u + 1) := by omega
        simp [this, e]
theorem s_having {of : Nat → Int32} {l : Int32} {k : Int32 → Prop} (hk : ∀ x, (∀ v, 1 ≤ v → v ≤ 10 → bt x v = decide (of v = l)) → k x) : p_L_having of l k := by
  unfold p_L_having
  refine ⟨11, l_hav hk 10 0 0 (by omega) (fun v a b => ?_)⟩
  rw [bt_0]
  have : ¬ v ≤ 0 := by omega
  simp [this]
/-- what the labels of shared variables are, by system -/
def shl (of : Nat → Int32) (sys v : Nat) : Int32 := if sys = 0 then 2 else if sys = 1 then 3 else if sys = 2 then 1 else of v
theorem s_shared {of : Nat → Int32} {l : Int32} {sys : Nat} {k : Int32 → Prop} (hs : sys ≤ 3) (hl : l = 1 ∨ l = 2) (hk : ∀ x, (∀ v, 1 ≤ v → v ≤ 10 → bt x v = decide (shl of sys v = l)) → k x) : p_F_sharedHaving of l (nI sys) k := by
  unfold p_F_sharedHaving
  have h4 : sys = 0 ∨ sys = 1 ∨ sys = 2 ∨ sys = 3 := by omega
  unfold shl at hk
  rcases h4 with rfl | rfl | rfl | rfl
  · refine ⟨fun _ => ⟨fun q => hk 0 (fun v a b => ?_), fun q => hk 1023 (fun v a b => ?_)⟩, fun q => absurd q (by decide), fun q => absurd q (by decide), fun q => absurd rfl q⟩
    · rw [bt_0]; simp; exact fun h => q h.symm
    · rw [bt_1023 a b]; simp [q]
  · refine ⟨fun q => absurd q (by decide), fun _ => hk 0 (fun v a b => ?_), fun q => absurd q (by decide), fun _ q => absurd rfl q⟩
    rw [bt_0]; rcases hl with rfl | rfl <;> simp
  · refine ⟨fun q => absurd q (by decide), fun q => absurd q (by decide), fun _ => ⟨fun q => hk 0 (fun v a b => ?_), fun q => hk 1023 (fun v a b => ?_)⟩, fun _ _ q => absurd rfl q⟩
    · rw [bt_0]; simp; exact fun h => q h.symm
    · rw [bt_1023 a b]; simp [q]
  · refine ⟨fun q => absurd q (by decide), fun q => absurd q (by decide), fun q => absurd q (by decide), fun _ _ _ => s_having (fun x hx => hk x (fun v a b => ?_))⟩
    rw [hx v a b]; simp
/-- the masks say the labels -/
def MK (lab : Nat → Int32) (a b : Int32) (sys : Nat) (LA LB : Int32) : Prop := ∀ v, 1 ≤ v → v ≤ 10 → bt LA v = decide (labS lab a b sys v = 1) ∧ bt LB v = decide (labS lab a b sys v = 2)
theorem s_choose {n c sys : Nat} {cb cl cr cv cP cN cL mb ml mr mv mP mN mL of lab : Nat → Int32} {k : Int32 → Int32 → Int32 → Prop} (hn : n ≤ 200) (hc : c ≤ 7) (hs : sys ≤ 3) (hE : EQc n cb cl cr cv cP cN cL mb ml mr mv mP mN mL) (hR : RL of lab)
    (hk : ∀ LA LB, MK lab (occA mP mN mb c n) (occB mP mN mb c n) sys LA LB → k (nI c) LA LB) : p_F_choose (nI n) cb cP cN of (nI c) (nI sys) k := by
  unfold p_F_choose
  refine c_occA hn hE (c_occB hn hc hE (s_shared hs (Or.inl rfl) (fun h1 e1 LA eA => s_shared hs (Or.inr rfl) (fun h2 e2 LB eB => hk LA LB (fun v a b => ?_)))))
  generalize occA mP mN mb c n = A at *
  generalize occB mP mN mb c n = B at *
  have hof := hR v a b
  rw [eA, eB, bt_or, bt_and, bt_and, bt_and, bt_or, bt_and, bt_and, bt_and, bt_not B a b, bt_not A a b, bt_1023 a b, e1 v a b, e2 v a b]
  unfold labS shl
  have h4 : sys = 0 ∨ sys = 1 ∨ sys = 2 ∨ sys = 3 := by omega
  cases hB : bt B v
  · simp
  · cases hA : bt A v
    · simp
    · rcases h4 with rfl | rfl | rfl | rfl
      · simp
      · simp
      · simp
      · simp only [hof.1]
        simp

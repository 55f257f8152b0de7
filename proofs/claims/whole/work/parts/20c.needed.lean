/-! PURE: what is needed -/
def stN (b l r : Nat → Int32) (i : Nat) (f : Nat → Int32) : Nat → Int32 := if f i = 0 then f else if b i = 0 then upd (upd f (l i).toNatClampNeg 1) (r i).toNatClampNeg 1 else f
def mkN (b l r : Nat → Int32) : Nat → (Nat → Int32) → (Nat → Int32)
  | 0, f => f
  | i + 1, f => mkN b l r i (stN b l r (i + 1) f)
theorem OKc.par {b l r v : Nat → Int32} {i : Nat} (ok : OKc b l r v i) (hi : i ≤ 201) (hb : b i = 0) : ∃ x y z : Nat, 1 ≤ x ∧ x < i ∧ 1 ≤ y ∧ y < i ∧ 1 ≤ z ∧ z ≤ 10 ∧ l i = nI x ∧ r i = nI y ∧ v i = nI z ∧ (l i).toNatClampNeg = x ∧ (r i).toNatClampNeg = y := by
  rcases ok with ⟨k, k1, k2, k3, -⟩ | ⟨-, x, y, z, x1, x2, y1, y2, z1, z2, hl, hr, hv⟩
  · rw [k3] at hb; exact absurd hb (n_ne (a := k) (b := 0) (by omega))
  · exact ⟨x, y, z, x1, x2, y1, y2, z1, z2, hl, hr, hv, by rw [hl]; exact n_cl, by rw [hr]; exact n_cl⟩
/-- one step, read at a place -/
theorem stN_at {b l r v f : Nat → Int32} {i : Nat} (ok : OKc b l r v i) (hi : i ≤ 201) (j : Nat) : (stN b l r i f j = f j) ∨ (stN b l r i f j = 1 ∧ 1 ≤ j ∧ j < i) := by
  unfold stN
  by_cases h0 : f i = 0
  · rw [if_pos h0]; exact Or.inl rfl
  rw [if_neg h0]
  by_cases hb : b i = 0
  · rw [if_pos hb]
    obtain ⟨x, y, z, x1, x2, y1, y2, -, -, -, -, -, ex, ey⟩ := ok.par hi hb
    rw [ex, ey]
    by_cases hy : j = y
    · subst hy; rw [upd_s]; exact Or.inr ⟨rfl, y1, y2⟩
    rw [upd_n hy]
    by_cases hx : j = x
    · subst hx; rw [upd_s]; exact Or.inr ⟨rfl, x1, x2⟩
    rw [upd_n hx]; exact Or.inl rfl
  · rw [if_neg hb]; exact Or.inl rfl
section ND
variable {b l r v : Nat → Int32}
theorem mkN_hi : ∀ (i : Nat) (f : Nat → Int32), (∀ j, 1 ≤ j → j ≤ i → OKc b l r v j) → i ≤ 201 → ∀ j, i ≤ j → mkN b l r i f j = f j
  | 0, f, ok, hi, j, hj => rfl
  | i + 1, f, ok, hi, j, hj => by
    show mkN b l r i (stN b l r (i + 1) f) j = f j
    rw [mkN_hi i _ (fun j h1 h2 => ok j h1 (by omega)) (by omega) j (by omega)]
    rcases stN_at (f := f) (ok (i + 1) (by omega) (Nat.le_refl _)) hi j with h | h
    · exact h
    · omega
theorem mkN_one : ∀ (i : Nat) (f : Nat → Int32), (∀ j, 1 ≤ j → j ≤ i → OKc b l r v j) → i ≤ 201 → ∀ j, f j = 1 → mkN b l r i f j = 1
  | 0, f, ok, hi, j, hj => hj
  | i + 1, f, ok, hi, j, hj => by
    refine mkN_one i _ (fun j h1 h2 => ok j h1 (by omega)) (by omega) j ?_
    rcases stN_at (f := f) (ok (i + 1) (by omega) (Nat.le_refl _)) hi j with h | h
    · rw [h]; exact hj
    · exact h.1
theorem mkN_01 : ∀ (i : Nat) (f : Nat → Int32), (∀ j, 1 ≤ j → j ≤ i → OKc b l r v j) → i ≤ 201 → ∀ j, (f j = 0 ∨ f j = 1) → mkN b l r i f j = 0 ∨ mkN b l r i f j = 1
  | 0, f, ok, hi, j, hj => hj
  | i + 1, f, ok, hi, j, hj => by
    refine mkN_01 i _ (fun j h1 h2 => ok j h1 (by omega)) (by omega) j ?_
    rcases stN_at (f := f) (ok (i + 1) (by omega) (Nat.le_refl _)) hi j with h | h
    · rw [h]; exact hj
    · exact Or.inr h.1
theorem stN_par {f : Nat → Int32} {i : Nat} (ok : OKc b l r v i) (hi : i ≤ 201) (h0 : f i ≠ 0) (hb : b i = 0) : stN b l r i f (l i).toNatClampNeg = 1 ∧ stN b l r i f (r i).toNatClampNeg = 1 := by
  unfold stN
  rw [if_neg h0, if_pos hb]
  constructor
  · by_cases h : (l i).toNatClampNeg = (r i).toNatClampNeg
    · rw [h, upd_s]
    · rw [upd_n h, upd_s]
  · rw [upd_s]
theorem mkN_par : ∀ (i : Nat) (f : Nat → Int32), (∀ j, 1 ≤ j → j ≤ i → OKc b l r v j) → i ≤ 201 → ∀ j, 1 ≤ j → j ≤ i → mkN b l r i f j ≠ 0 → b j = 0 → mkN b l r i f (l j).toNatClampNeg = 1 ∧ mkN b l r i f (r j).toNatClampNeg = 1
  | 0, f, ok, hi, j, h1, h2, _, _ => by omega
  | i + 1, f, ok, hi, j, h1, h2, hj, hb => by
    have ok' : ∀ j, 1 ≤ j → j ≤ i → OKc b l r v j := fun j h1 h2 => ok j h1 (by omega)
    by_cases e : j = i + 1
    · subst e
      have h3 : mkN b l r (i + 1) f (i + 1) = f (i + 1) := mkN_hi (v := v) (i + 1) f ok hi _ (Nat.le_refl _)
      rw [h3] at hj
      have h4 := stN_par (ok (i + 1) (by omega) (Nat.le_refl _)) hi hj hb
      exact ⟨mkN_one (v := v) i _ ok' (by omega) _ h4.1, mkN_one (v := v) i _ ok' (by omega) _ h4.2⟩
    · exact mkN_par i _ ok' (by omega) j h1 (by omega) hj hb
theorem mkN_skip {e : Nat} {f : Nat → Int32} : ∀ (n : Nat), e ≤ n → (∀ i, e < i → i ≤ n → f i = 0) → mkN b l r n f = mkN b l r e f
  | 0, h, _ => by rw [Nat.le_zero.mp h]
  | n + 1, h, hz => by
    by_cases q : e = n + 1
    · rw [q]
    · have h1 : stN b l r (n + 1) f = f := by unfold stN; rw [if_pos (hz (n + 1) (by omega) (Nat.le_refl _))]
      show mkN b l r n (stN b l r (n + 1) f) = _
      rw [h1]
      exact mkN_skip n (by omega) (fun i a b => hz i a (by omega))
theorem mkN_cong {b' l' r' : Nat → Int32} {m : Nat} : ∀ (i : Nat) (f f' : Nat → Int32), i ≤ m → i ≤ 201 → (∀ j, 1 ≤ j → j ≤ i → OKc b l r v j) → (∀ j, 1 ≤ j → j ≤ i → b' j = b j ∧ l' j = l j ∧ r' j = r j) → (∀ j, 1 ≤ j → j ≤ m → f' j = f j) → ∀ j, 1 ≤ j → j ≤ m → mkN b' l' r' i f' j = mkN b l r i f j
  | 0, f, f', him, hi, ok, hc, hf, j, h1, h2 => hf j h1 h2
  | i + 1, f, f', him, hi, ok, hc, hf, j, h1, h2 => by
    refine mkN_cong i _ _ (by omega) (by omega) (fun j h1 h2 => ok j h1 (by omega)) (fun j h1 h2 => hc j h1 (by omega)) (fun j h1 h2 => ?_) j h1 h2
    obtain ⟨e1, e2, e3⟩ := hc (i + 1) (by omega) (Nat.le_refl _)
    unfold stN
    rw [e1, e2, e3, hf (i + 1) (by omega) him]
    by_cases h0 : f (i + 1) = 0
    · rw [if_pos h0, if_pos h0]; exact hf j h1 h2
    rw [if_neg h0, if_neg h0]
    by_cases hb : b (i + 1) = 0
    · rw [if_pos hb, if_pos hb]
      unfold upd
      by_cases q1 : j = (r (i + 1)).toNatClampNeg
      · rw [if_pos q1, if_pos q1]
      rw [if_neg q1, if_neg q1]
      by_cases q2 : j = (l (i + 1)).toNatClampNeg
      · rw [if_pos q2, if_pos q2]
      rw [if_neg q2, if_neg q2]
      exact hf j h1 h2
    · rw [if_neg hb, if_neg hb]; exact hf j h1 h2
end ND
/-! the class's loops -/
theorem l_mark1 {e : Nat} {k : (Nat → Int32) → Prop} (he : e ≤ 200) (hk : ∀ g : Nat → Int32, (∀ j, j ≤ 200 → g j = if j = e ∧ e ≠ 0 then 1 else 0) → k g) : ∀ (d i : Nat) (f : Nat → Int32), d + i = 201 → (∀ j, j < i → f j = if j = e ∧ e ≠ 0 then 1 else 0) → p_C_markNeeded_L2 (nI e) k (d + 1) (nI i) f
  | 0, i, f, hd, hf => by
    unfold p_C_markNeeded_L2
    exact ct (n_lt (a := 200) (by omega)) (hk f (fun j hj => hf j (by omega)))
  | d + 1, i, f, hd, hf => by
    have step : ∀ x : Int32, (x = if i = e ∧ e ≠ 0 then 1 else 0) → p_C_markNeeded_L2 (nI e) k (d + 1) (nI (i + 1)) (upd f i x) := fun x hx =>
      l_mark1 he hk d (i + 1) _ (by omega) (fun j hj => by
        by_cases q : j = i
        · rw [q, upd_s]; exact hx
        · rw [upd_n q]; exact hf j (by omega))
    unfold p_C_markNeeded_L2
    refine cf (n_nlt (b := i) (a := 200) (by omega)) ⟨fun q => ⟨n_in (by omega), ?_⟩, fun q => ⟨fun q2 => ⟨n_in (by omega), ?_⟩, fun q2 => ⟨n_in (by omega), ?_⟩⟩⟩
    · rw [n_cl, n_p1]
      have : i = 0 := (nI_eq (b := 0) (by omega) (by omega)).mp q
      exact step 0 (by rw [if_neg (by omega)])
    · rw [n_cl, n_p1]
      exact step 0 (by rw [if_neg (fun h => q2 (by rw [h.1]))])
    · rw [n_cl, n_p1]
      have : i = e := (nI_eq (by omega) (by omega)).mp q2
      exact step 1 (by rw [if_pos ⟨this, fun h => q (by rw [this, h]; rfl)⟩])
theorem l_mark2 {b l r v : Nat → Int32} {k : (Nat → Int32) → Prop} : ∀ (i : Nat) (f : Nat → Int32), i ≤ 200 → (∀ j, 1 ≤ j → j ≤ i → OKc b l r v j) → k (mkN b l r i f) → p_C_markNeeded_L43 b l r k (i + 1) (nI i) f
  | 0, f, hi, ok, hk => by
    unfold p_C_markNeeded_L43
    exact ct (by decide) hk
  | i + 1, f, hi, ok, hk => by
    have ok' : ∀ j, 1 ≤ j → j ≤ i → OKc b l r v j := fun j h1 h2 => ok j h1 (by omega)
    have hk : k (mkN b l r i (stN b l r (i + 1) f)) := hk
    unfold p_C_markNeeded_L43
    refine cf (n_nlt (b := 1) (by omega)) ⟨n_in (by omega), ?_⟩
    rw [n_cl, n_m1]
    refine ⟨fun q => ?_, fun q => ⟨fun q2 => ?_, fun q2 => ?_⟩⟩
    · have : stN b l r (i + 1) f = f := by unfold stN; rw [if_pos q]
      rw [this] at hk
      exact l_mark2 i f (by omega) ok' hk
    · have : stN b l r (i + 1) f = f := by unfold stN; rw [if_neg q, if_neg q2]
      rw [this] at hk
      exact l_mark2 i f (by omega) ok' hk
    · obtain ⟨x, y, z, x1, x2, y1, y2, -, -, hl, hr, -, ex, ey⟩ := (ok (i + 1) (by omega) (Nat.le_refl _)).par (by omega) q2
      refine ⟨by rw [hl]; exact n_in (by omega), by rw [hr]; exact n_in (by omega), ?_⟩
      have : stN b l r (i + 1) f = upd (upd f (l (i + 1)).toNatClampNeg 1) (r (i + 1)).toNatClampNeg 1 := by unfold stN; rw [if_neg q, if_pos q2]
      rw [this] at hk
      exact l_mark2 i _ (by omega) ok' hk
theorem s_mark {e : Nat} {b l r v D : Nat → Int32} {k : (Nat → Int32) → Prop} (he : e ≤ 200) (ok : ∀ j, 1 ≤ j → j ≤ e → OKc b l r v j) (hk : ∀ g : Nat → Int32, (∀ j, j ≤ 200 → g j = if j = e ∧ e ≠ 0 then 1 else 0) → k (mkN b l r e g)) : p_C_markNeeded (nI e) b l r D k := by
  unfold p_C_markNeeded
  exact ⟨202, l_mark1 he (fun g hg => ⟨e + 1, l_mark2 (v := v) e g he ok (hk g hg)⟩) 201 0 D (by omega) (fun j hj => absurd hj (Nat.not_lt_zero j))⟩
/-! the reference's loops -/
theorem endOf_eq {e j : Nat} (he : e ≤ 200) (hj : j < 202) : nI j = endOf e ↔ j = e ∧ e ≠ 0 := by
  unfold endOf
  by_cases h : e = 0
  · rw [if_pos h]
    constructor
    · intro q
      have := congrArg Int32.toInt q
      rw [nI_toInt (by omega), i_m1] at this
      omega
    · intro q; exact absurd h q.2
  · rw [if_neg h, nI_eq (by omega) (by omega)]
    exact ⟨fun q => ⟨q, h⟩, fun q => q.1⟩
theorem l_find1 {e : Nat} {k : (Nat → Int32) → Prop} (he : e ≤ 200) (hk : ∀ g : Nat → Int32, (∀ j, j < 202 → g j = if j = e ∧ e ≠ 0 then 1 else 0) → k g) : ∀ (d i : Nat) (f : Nat → Int32), d + i = 202 → (∀ j, j < i → f j = if j = e ∧ e ≠ 0 then 1 else 0) → p_M_find_L10 (endOf e) k (d + 1) (nI i) f
  | 0, i, f, hd, hf => by
    unfold p_M_find_L10
    exact ct (n_le (a := 202) (by omega)) (hk f (fun j hj => hf j (by omega)))
  | d + 1, i, f, hd, hf => by
    have step : ∀ x : Int32, (x = if i = e ∧ e ≠ 0 then 1 else 0) → p_M_find_L10 (endOf e) k (d + 1) (nI (i + 1)) (upd f i x) := fun x hx =>
      l_find1 he hk d (i + 1) _ (by omega) (fun j hj => by
        by_cases q : j = i
        · rw [q, upd_s]; exact hx
        · rw [upd_n q]; exact hf j (by omega))
    unfold p_M_find_L10
    refine cf (n_nle (a := 202) (by omega)) ⟨fun q => ⟨n_in (by omega), ?_⟩, fun q => ⟨n_in (by omega), ?_⟩⟩
    · rw [n_cl, n_p1]
      exact step 0 (by rw [if_neg (fun h => q ((endOf_eq he (by omega)).mpr h))])
    · rw [n_cl, n_p1]
      exact step 1 (by rw [if_pos ((endOf_eq he (by omega)).mp q)])
theorem l_find2 {E : Int32} {b l r v : Nat → Int32} {k : Int32 → (Nat → Int32) → Prop} : ∀ (i : Nat) (f : Nat → Int32), i ≤ 200 → (∀ j, 1 ≤ j → j ≤ i → OKc b l r v j) → k E (mkN b l r i f) → p_M_find_L47 E b l r k (i + 1) (nI i) f
  | 0, f, hi, ok, hk => by
    unfold p_M_find_L47
    exact ct (by decide) hk
  | i + 1, f, hi, ok, hk => by
    have ok' : ∀ j, 1 ≤ j → j ≤ i → OKc b l r v j := fun j h1 h2 => ok j h1 (by omega)
    have hk : k E (mkN b l r i (stN b l r (i + 1) f)) := hk
    unfold p_M_find_L47
    refine cf (n_nle (b := 0) (by omega)) ⟨n_in (by omega), ?_⟩
    rw [n_cl, n_m1]
    refine ⟨fun q => ?_, fun q => ⟨fun q2 => ?_, fun q2 => ?_⟩⟩
    · have : stN b l r (i + 1) f = f := by unfold stN; rw [if_pos q]
      rw [this] at hk
      exact l_find2 i f (by omega) ok' hk
    · have hb0 : b (i + 1) = 0 := by
        obtain ⟨kk, h1, h2⟩ := (ok (i + 1) (by omega) (Nat.le_refl _)).blk
        rw [h2] at q2 ⊢
        have : kk ≤ 0 := (nI_leI (b := 0) (by omega) (by omega)).mp q2
        rw [Nat.le_zero.mp this]; rfl
      obtain ⟨x, y, z, x1, x2, y1, y2, -, -, hl, hr, -, ex, ey⟩ := (ok (i + 1) (by omega) (Nat.le_refl _)).par (by omega) hb0
      refine ⟨by rw [hl]; exact n_in (by omega), by rw [hr]; exact n_in (by omega), ?_⟩
      have : stN b l r (i + 1) f = upd (upd f (l (i + 1)).toNatClampNeg 1) (r (i + 1)).toNatClampNeg 1 := by unfold stN; rw [if_neg q, if_pos hb0]
      rw [this] at hk
      exact l_find2 i _ (by omega) ok' hk
    · have hb0 : ¬ b (i + 1) = 0 := fun h => q2 (by rw [h]; decide)
      have : stN b l r (i + 1) f = f := by unfold stN; rw [if_neg q, if_neg hb0]
      rw [this] at hk
      exact l_find2 i f (by omega) ok' hk
theorem s_find {n e : Nat} {P N b l r v D : Nat → Int32} {k : Int32 → (Nat → Int32) → Prop} (hn : n ≤ 200) (hf : FE n e P N) (ok : ∀ j, 1 ≤ j → j ≤ n → OKc b l r v j) (hk : ∀ g : Nat → Int32, (∀ j, j < 202 → g j = if j = e ∧ e ≠ 0 then 1 else 0) → k (endOf e) (mkN b l r e g)) : p_M_find (nI n) P N b l r D k := by
  unfold p_M_find
  have he := hf.le
  refine s_empty hn hf ⟨203, l_find1 (by omega) (fun g hg => ⟨n + 1, l_find2 (v := v) n g hn ok ?_⟩) 202 0 D (by omega) (fun j hj => absurd hj (Nat.not_lt_zero j))⟩
  rw [mkN_skip n he (fun i h1 h2 => by rw [hg i (by omega), if_neg (by omega)])]
  exact hk g hg
/-- the needed ones of the class and of the reference, n clauses, e the first empty one -/
def RN (n e : Nat) (mb ml mr : Nat → Int32) (cD mD : Nat → Int32) : Prop :=
  (∀ i, 1 ≤ i → i ≤ n → cD i = mD i) ∧ (e ≠ 0 → ∀ i, 1 ≤ i → i ≤ 200 → cD i = mD i) ∧ (∀ i, i < 202 → mD i = 0 ∨ mD i = 1) ∧ (∀ i, e < i → i < 202 → mD i = 0) ∧ (e ≠ 0 → mD e = 1) ∧
  (∀ i, 1 ≤ i → i ≤ e → mD i ≠ 0 → mb i = 0 → mD (ml i).toNatClampNeg = 1 ∧ mD (mr i).toNatClampNeg = 1)
theorem RN.of {n e : Nat} {cb cl cr mb ml mr mv g h : Nat → Int32} (hn : n ≤ 200) (he : e ≤ n) (ok : ∀ j, 1 ≤ j → j ≤ n → OKc mb ml mr mv j) (hc : ∀ j, 1 ≤ j → j ≤ n → cb j = mb j ∧ cl j = ml j ∧ cr j = mr j)
    (hg : ∀ j, j ≤ 200 → g j = if j = e ∧ e ≠ 0 then 1 else 0) (hh : ∀ j, j < 202 → h j = if j = e ∧ e ≠ 0 then 1 else 0) : RN n e mb ml mr (mkN cb cl cr e g) (mkN mb ml mr e h) := by
  have ok' : ∀ j, 1 ≤ j → j ≤ e → OKc mb ml mr mv j := fun j h1 h2 => ok j h1 (by omega)
  have hcg := mkN_cong (v := mv) (b' := cb) (l' := cl) (r' := cr) (m := 200) e h g (by omega) (by omega) ok' (fun j h1 h2 => hc j h1 (by omega)) (fun j h1 h2 => by rw [hg j h2, hh j (by omega)])
  refine ⟨fun i h1 h2 => hcg i h1 (by omega), fun _ i h1 h2 => hcg i h1 h2, fun i hi => ?_, fun i h1 h2 => ?_, fun h0 => ?_, fun i h1 h2 h3 h4 => mkN_par (v := mv) e h ok' (by omega) i h1 h2 h3 h4⟩
  · refine mkN_01 (v := mv) e h ok' (by omega) i ?_
    rw [hh i hi]
    by_cases q : i = e ∧ e ≠ 0
    · rw [if_pos q]; exact Or.inr rfl
    · rw [if_neg q]; exact Or.inl rfl
  · rw [mkN_hi (v := mv) e h ok' (by omega) i (by omega), hh i h2, if_neg (by omega)]
  · rw [mkN_hi (v := mv) e h ok' (by omega) e (Nat.le_refl _), hh e (by omega), if_pos ⟨rfl, h0⟩]

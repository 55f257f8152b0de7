/-! PURE: tokens -/
theorem and255 (x : Int32) : (x &&& 255).toInt = x.toInt % 256 := by
  have h := pk_and x (m := 255) 8 (by decide)
  rw [h, nI_toInt (by have := Nat.mod_lt x.toBitVec.toNat (show 0 < 2 ^ 8 by decide); omega)]
  have e : x.toInt = x.toBitVec.toInt := rfl
  rw [e, BitVec.toInt_eq_toNat_cond]
  have hl := x.toBitVec.isLt
  split <;> omega
theorem isB_255 {x : Int32} (h : isB x) (c : Nat) (hc : c < 128) : x &&& 255 = nI c ↔ x = nI c := by
  rw [i_toInt_eq, i_toInt_eq, and255, nI_toInt (by omega)]
  have := h.1; have := h.2
  omega
theorem isB_dig {x : Int32} (h : isB x) : inR (x &&& 255) 48 57 ↔ inR x 48 57 := by
  unfold inR
  have e1 : (48 : Int32).toInt = 48 := by decide
  have e2 : (57 : Int32).toInt = 57 := by decide
  rw [i_toInt_lt, i_toInt_lt, i_toInt_lt, i_toInt_lt, and255, e1, e2]
  have := h.1; have := h.2
  omega
theorem dig_255 {x : Int32} (h : isB x) (hd : inR x 48 57) : x &&& 255 = x := by
  have e1 : (48 : Int32).toInt = 48 := by decide
  have h1 := hd.1
  rw [i_toInt_lt, e1] at h1
  rw [i_toInt_eq, and255]
  have := h.1; have := h.2
  omega
theorem s_isDigR {x : Int32} {k : Int32 → Prop} (h1 : inR x 48 57 → k 1) (h0 : ¬ inR x 48 57 → k 0) : p_R_isDigit x k := by
  unfold p_R_isDigit
  exact ⟨fun q => h0 (fun h => h.1 q), fun q => ⟨fun q2 => h0 (fun h => h.2 q2), fun q2 => h1 ⟨q, q2⟩⟩⟩
theorem s_isDigM {x : Int32} {k : Int32 → Prop} (h1 : inR x 48 57 → k 1) (h0 : ¬ inR x 48 57 → k 0) : p_M_isDigit x k := by
  unfold p_M_isDigit
  exact ⟨fun q => h0 (fun h => h.1 q), fun q => ⟨fun q2 => h0 (fun h => h.2 q2), fun q2 => h1 ⟨q, q2⟩⟩⟩
theorem s_byteAt {n j : Nat} {tb : Nat → Int32} {k : Int32 → Prop} (hn : n ≤ 2000) (hj : j < n) (hk : k (tb j &&& 255)) : p_T_byteAt (nI n) tb (nI j) k := by
  unfold p_T_byteAt
  refine cf (nI_pos (by omega)) (cf (n_nle (by omega)) (cf (n_nle (a := 2000) (by omega)) ⟨n_in (by omega), ?_⟩))
  rw [n_cl]; exact hk
theorem s_byteEnd {n : Nat} {tb : Nat → Int32} {k : Int32 → Prop} (hn : n ≤ 2000) (hk : k (-1)) : p_T_byteAt (nI n) tb (nI n) k := by
  unfold p_T_byteAt
  exact cf (nI_pos (by omega)) (ct (n_le (Nat.le_refl _)) hk)
section LX
variable {n : Nat} {tb mb : Nat → Int32}
theorem lex_skip (hn : n ≤ 2000) (hB : ∀ j, j < n → tb j = mb j ∧ isB (mb j)) : ∀ (d p : Nat), d + p = n → ∃ q, p ≤ q ∧ q ≤ n ∧ (∀ k, k (nI q) → p_R_skipBlanks_L0 (nI n) tb k (d + 1) (nI p)) ∧ (∀ k, k (nI q) → p_M_cut_L5 (nI n) mb k (d + 1) (nI p))
  | 0, p, hd => by
    refine ⟨p, Nat.le_refl _, by omega, fun k hk => ?_, fun k hk => ?_⟩
    · unfold p_R_skipBlanks_L0; exact ct (n_le (by omega)) hk
    · unfold p_M_cut_L5; exact ct (n_le (by omega)) hk
  | d + 1, p, hd => by
    obtain ⟨e1, e2⟩ := hB p (by omega)
    by_cases hb : mb p = 32 ∨ mb p = 10
    · obtain ⟨q, q1, q2, q3, q4⟩ := lex_skip hn hB d (p + 1) (by omega)
      refine ⟨q, by omega, q2, fun k hk => ?_, fun k hk => ?_⟩
      · unfold p_R_skipBlanks_L0 p_R_isBlank
        rw [n_p1]
        refine cf (n_nle (by omega)) (s_byteAt hn (by omega) ?_)
        rw [e1]
        refine ⟨fun _ => cf (by decide) (q3 k hk), fun z => ⟨fun z2 => ?_, fun _ => cf (by decide) (q3 k hk)⟩⟩
        rcases hb with hb | hb
        · exact absurd ((isB_255 e2 32 (by decide)).mpr hb) z
        · exact absurd ((isB_255 e2 10 (by decide)).mpr hb) z2
      · unfold p_M_cut_L5
        rw [n_p1]
        refine cf (n_nle (by omega)) ⟨n_in (by omega), ?_⟩
        rw [n_cl]
        refine ⟨fun _ => q4 k hk, fun z => ⟨fun z2 => ?_, fun _ => q4 k hk⟩⟩
        rcases hb with hb | hb
        · exact absurd hb z
        · exact absurd hb z2
    · refine ⟨p, Nat.le_refl _, by omega, fun k hk => ?_, fun k hk => ?_⟩
      · unfold p_R_skipBlanks_L0 p_R_isBlank
        refine cf (n_nle (by omega)) (s_byteAt hn (by omega) ?_)
        rw [e1]
        exact cf (fun z => hb (Or.inl ((isB_255 e2 32 (by decide)).mp z))) (df (fun z => hb (Or.inr ((isB_255 e2 10 (by decide)).mp z))) (ct rfl hk))
      · unfold p_M_cut_L5
        refine cf (n_nle (by omega)) ⟨n_in (by omega), ?_⟩
        rw [n_cl]
        exact cf (fun z => hb (Or.inl z)) (df (fun z => hb (Or.inr z)) hk)
theorem num_same (a x : Int32) : a * 10 + (x - 48) = 10 * a + x - 48 := by
  rw [Int32.mul_comm a 10, Int32.sub_eq_add_neg, Int32.sub_eq_add_neg, Int32.add_assoc]
theorem lex_dig (hn : n ≤ 2000) (hB : ∀ j, j < n → tb j = mb j ∧ isB (mb j)) (q : Nat) : ∀ (d i : Nat) (num : Int32), d + (q + i) = n → ∃ i' w, i ≤ i' ∧ q + i' ≤ n ∧ (i < i' ∨ q + i = n ∨ ¬ inR (mb (q + i)) 48 57) ∧ (∀ k, k (nI (q + i')) w → p_R_takeDigits_L5 (nI n) tb (nI q) k (d + 1) (nI (q + i)) num) ∧ (∀ k, k (nI i') w → p_M_cut_L133 (nI n) mb (nI q) k (d + 1) (nI i) num)
  | 0, i, num, hd => by
    refine ⟨i, num, Nat.le_refl _, by omega, Or.inr (Or.inl (by omega)), fun k hk => ?_, fun k hk => ?_⟩
    · unfold p_R_takeDigits_L5; exact ct (n_le (by omega)) hk
    · unfold p_M_cut_L133; rw [nI_add]; exact ct (n_le (by omega)) hk
  | d + 1, i, num, hd => by
    obtain ⟨e1, e2⟩ := hB (q + i) (by omega)
    by_cases hb : inR (mb (q + i)) 48 57
    · have es : nI (q + i) - nI q = nI i := by rw [pk_sub (by omega)]; congr 1; omega
      by_cases h3 : 3 ≤ i
      · obtain ⟨i', w, q1, q2, q3, q4, q5⟩ := lex_dig hn hB q d (i + 1) num (by omega)
        refine ⟨i', w, by omega, q2, Or.inl (by omega), fun k hk => ?_, fun k hk => ?_⟩
        · unfold p_R_takeDigits_L5
          rw [n_p1, es]
          refine cf (n_nle (by omega)) (s_byteAt hn (by omega) ?_)
          rw [e1]
          exact s_isDigR (fun _ => cf (by decide) (ct (n_le (a := 3) h3) (q4 k hk))) (fun z => absurd ((isB_dig e2).mpr hb) z)
        · unfold p_M_cut_L133
          rw [nI_add, n_p1]
          refine cf (n_nle (by omega)) ⟨n_in (by omega), ?_⟩
          rw [n_cl]
          exact s_isDigM (fun _ => cf (by decide) (ct (n_le (a := 3) h3) (q5 k hk))) (fun z => absurd hb z)
      · obtain ⟨i', w, q1, q2, q3, q4, q5⟩ := lex_dig hn hB q d (i + 1) (10 * num + mb (q + i) - 48) (by omega)
        refine ⟨i', w, by omega, q2, Or.inl (by omega), fun k hk => ?_, fun k hk => ?_⟩
        · unfold p_R_takeDigits_L5
          rw [n_p1, es]
          refine cf (n_nle (by omega)) (s_byteAt hn (by omega) ?_)
          rw [e1]
          refine s_isDigR (fun _ => cf (by decide) (cf (n_nle (a := 3) (by omega)) (s_byteAt hn (by omega) (fun v hv => ?_)))) (fun z => absurd ((isB_dig e2).mpr hb) z)
          rw [hv, e1, dig_255 e2 hb, num_same]
          exact q4 k hk
        · unfold p_M_cut_L133
          rw [nI_add, n_p1]
          refine cf (n_nle (by omega)) ⟨n_in (by omega), ?_⟩
          rw [n_cl]
          exact s_isDigM (fun _ => cf (by decide) (cf (n_nle (a := 3) (by omega)) (fun v hv => by rw [hv]; exact q5 k hk))) (fun z => absurd hb z)
    · refine ⟨i, num, Nat.le_refl _, by omega, Or.inr (Or.inr hb), fun k hk => ?_, fun k hk => ?_⟩
      · unfold p_R_takeDigits_L5
        refine cf (n_nle (by omega)) (s_byteAt hn (by omega) ?_)
        rw [e1]
        exact s_isDigR (fun z => absurd ((isB_dig e2).mp z) hb) (fun _ => ct rfl hk)
      · unfold p_M_cut_L133
        rw [nI_add]
        refine cf (n_nle (by omega)) ⟨n_in (by omega), ?_⟩
        rw [n_cl]
        exact s_isDigM (fun z => absurd z hb) (fun _ => ct rfl hk)
/-- the reference's sort of a token of the class -/
def ms (c : Int32) : Int32 := if c = -1 then 2 else if c = -2 then 1 else if c = -3 then 0 else c
def okT (c : Int32) : Prop := c = -1 ∨ c = -2 ∨ c = -3 ∨ c = 99 ∨ c = 114 ∨ c = 58 ∨ c = 59 ∨ c = 45
theorem ms_99 {c : Int32} (h : okT c) : ms c = 99 ↔ c = 99 := by rcases h with rfl | rfl | rfl | rfl | rfl | rfl | rfl | rfl <;> decide
theorem ms_114 {c : Int32} (h : okT c) : ms c = 114 ↔ c = 114 := by rcases h with rfl | rfl | rfl | rfl | rfl | rfl | rfl | rfl <;> decide
theorem ms_58 {c : Int32} (h : okT c) : ms c = 58 ↔ c = 58 := by rcases h with rfl | rfl | rfl | rfl | rfl | rfl | rfl | rfl <;> decide
theorem ms_59 {c : Int32} (h : okT c) : ms c = 59 ↔ c = 59 := by rcases h with rfl | rfl | rfl | rfl | rfl | rfl | rfl | rfl <;> decide
theorem ms_45 {c : Int32} (h : okT c) : ms c = 45 ↔ c = 45 := by rcases h with rfl | rfl | rfl | rfl | rfl | rfl | rfl | rfl <;> decide
theorem ms_1 {c : Int32} (h : okT c) : ms c = 1 ↔ c = -2 := by rcases h with rfl | rfl | rfl | rfl | rfl | rfl | rfl | rfl <;> decide
theorem ms_2 {c : Int32} (h : okT c) : ms c = 2 ↔ c = -1 := by rcases h with rfl | rfl | rfl | rfl | rfl | rfl | rfl | rfl <;> decide
/-- the token behind the place p -/
def Lx (n : Nat) (tb mb : Nat → Int32) (p : Nat) (c : Int32) (at' to : Nat) (w : Int32) : Prop :=
  okT c ∧ p ≤ at' ∧ to ≤ n ∧ (c ≠ -1 → at' < to) ∧ at' ≤ to ∧
  (∀ num k, (∀ num', (c = -2 → num' = w) → k (nI to) c (nI at') num') → p_R_nextToken (nI n) tb (nI p) num k) ∧
  (∀ a0 s0 w0 k, (∀ wo, (c = -2 → wo = w) → k (nI at') (nI to) (ms c) wo) → p_M_cut (nI n) a0 (nI p) s0 w0 mb k)
theorem lex (hn : n ≤ 2000) (hB : ∀ j, j < n → tb j = mb j ∧ isB (mb j)) {p : Nat} (hp : p ≤ n) : ∃ c at' to w, Lx n tb mb p c at' to w := by
  obtain ⟨q, q1, q2, q3, q4⟩ := lex_skip hn hB (n - p) p (by omega)
  by_cases hq : q = n
  · -- the end
    subst hq
    refine ⟨-1, q, q, 0, Or.inl rfl, q1, Nat.le_refl _, fun h => absurd rfl h, Nat.le_refl _, fun num k hk => ?_, fun a0 s0 w0 k hk => ?_⟩
    · unfold p_R_nextToken p_R_skipBlanks
      refine ⟨_, q3 _ (s_byteEnd hn (s_isDigR (fun z => absurd z (by unfold inR; decide)) (fun _ => ct rfl (dt rfl (hk _ (fun z => absurd z (by decide)))))))⟩
    · unfold p_M_cut
      refine ⟨_, q4 _ ?_⟩
      unfold p_M_cut_J41
      exact dt rfl (hk _ (fun z => absurd z (by decide)))
  · obtain ⟨e1, e2⟩ := hB q (by omega)
    have hne : ¬ nI q = nI n := n_ne hq
    by_cases hd : inR (mb q) 48 57
    · -- digits
      obtain ⟨i', w, i1, i2, i3, i4, i5⟩ := lex_dig hn hB q (n - q) 0 0 (by omega)
      have i3 : 0 < i' := by
        rcases i3 with h | h | h
        · exact h
        · omega
        · exact absurd hd h
      have es : nI (q + i') - nI q = nI i' := by rw [pk_sub (by omega)]; congr 1; omega
      by_cases h3 : i' ≤ 3
      · refine ⟨-2, q, q + i', w, Or.inr (Or.inl rfl), q1, i2, fun _ => by omega, by omega, fun num k hk => ?_, fun a0 s0 w0 k hk => ?_⟩
        · unfold p_R_nextToken p_R_skipBlanks
          refine ⟨_, q3 _ (s_byteAt hn (by omega) ?_)⟩
          rw [e1]
          refine s_isDigR (fun _ => cf (by decide) ?_) (fun z => absurd ((isB_dig e2).mpr hd) z)
          unfold p_R_takeDigits
          refine ⟨_, i4 _ ?_⟩
          rw [es]
          exact cf (n_nlt (a := 3) (b := i') h3) (hk _ (fun _ => rfl))
        · unfold p_M_cut
          refine ⟨_, q4 _ ?_⟩
          unfold p_M_cut_J41
          refine df hne ⟨n_in (by omega), ?_⟩
          rw [n_cl]
          refine s_isDigM (fun _ => df (by decide) ⟨_, i5 _ ?_⟩) (fun z => absurd hd z)
          rw [nI_add]
          exact ct (n_le (b := 3) h3) (hk _ (fun _ => rfl))
      · refine ⟨-3, q, q + i', w, Or.inr (Or.inr (Or.inl rfl)), q1, i2, fun _ => by omega, by omega, fun num k hk => ?_, fun a0 s0 w0 k hk => ?_⟩
        · unfold p_R_nextToken p_R_skipBlanks
          refine ⟨_, q3 _ (s_byteAt hn (by omega) ?_)⟩
          rw [e1]
          refine s_isDigR (fun _ => cf (by decide) ?_) (fun z => absurd ((isB_dig e2).mpr hd) z)
          unfold p_R_takeDigits
          refine ⟨_, i4 _ ?_⟩
          rw [es]
          exact ct (n_lt (a := 3) (b := i') (by omega)) (hk _ (fun z => absurd z (by decide)))
        · unfold p_M_cut
          refine ⟨_, q4 _ ?_⟩
          unfold p_M_cut_J41
          refine df hne ⟨n_in (by omega), ?_⟩
          rw [n_cl]
          refine s_isDigM (fun _ => df (by decide) ⟨_, i5 _ ?_⟩) (fun z => absurd hd z)
          rw [nI_add]
          exact cf (n_nle (b := 3) (by omega)) (hk _ (fun z => absurd z (by decide)))
    · -- one byte
      have hm1 : ¬ (mb q &&& 255) = -1 := fun z => by
        have := congrArg Int32.toInt z
        rw [and255, i_m1] at this
        omega
      have hcl : (nI q).toNatClampNeg = q := n_cl
      have one : ∀ x : Nat, x < 128 → okT (nI x) → nI x ≠ -1 → nI x ≠ -2 → ms (nI x) = nI x → mb q = nI x → (x = 99 ∨ x = 114 ∨ x = 58 ∨ x = 59 ∨ x = 45) → ∃ c at' to w, Lx n tb mb p c at' to w := fun x hx ok h1 h2 hms hb hs => by
        refine ⟨nI x, q, q + 1, 0, ok, q1, by omega, fun _ => by omega, by omega, fun num k hk => ?_, fun a0 s0 w0 k hk => ?_⟩
        · unfold p_R_nextToken p_R_skipBlanks
          refine ⟨_, q3 _ (s_byteAt hn (by omega) ?_)⟩
          rw [e1]
          refine s_isDigR (fun z => absurd ((isB_dig e2).mp z) hd) (fun _ => ct rfl (df hm1 ?_))
          have hb2 : mb q &&& 255 = nI x := (isB_255 e2 x hx).mpr hb
          rw [hb2, n_p1]
          have hkk := hk num (fun z => absurd z h2)
          unfold p_R_isSign
          rcases hs with rfl | rfl | rfl | rfl | rfl
          · exact ct rfl (cf (by decide) hkk)
          · exact cf (by decide) (ct rfl (cf (by decide) hkk))
          · exact cf (by decide) (cf (by decide) (ct rfl (cf (by decide) hkk)))
          · exact cf (by decide) (cf (by decide) (cf (by decide) (ct rfl (cf (by decide) hkk))))
          · exact cf (by decide) (cf (by decide) (cf (by decide) (cf (by decide) (dt rfl (cf (by decide) hkk)))))
        · unfold p_M_cut
          refine ⟨_, q4 _ ?_⟩
          unfold p_M_cut_J41
          refine df hne ⟨n_in (by omega), ?_⟩
          rw [hcl, n_p1, hb]
          rw [hb] at hd
          have hkk := hk w0 (fun z => absurd z h2)
          rw [hms] at hkk
          refine s_isDigM (fun z => absurd z hd) (fun _ => dt rfl ?_)
          rcases hs with rfl | rfl | rfl | rfl | rfl
          · exact ct rfl hkk
          · exact cf (by decide) (ct rfl hkk)
          · exact cf (by decide) (cf (by decide) (ct rfl hkk))
          · exact cf (by decide) (cf (by decide) (cf (by decide) (ct rfl hkk)))
          · exact cf (by decide) (cf (by decide) (cf (by decide) (cf (by decide) (dt rfl hkk))))
      by_cases s1 : mb q = 99
      · exact one 99 (by decide) (by unfold okT; decide) (by decide) (by decide) (by decide) s1 (by decide)
      by_cases s2 : mb q = 114
      · exact one 114 (by decide) (by unfold okT; decide) (by decide) (by decide) (by decide) s2 (by decide)
      by_cases s3 : mb q = 58
      · exact one 58 (by decide) (by unfold okT; decide) (by decide) (by decide) (by decide) s3 (by decide)
      by_cases s4 : mb q = 59
      · exact one 59 (by decide) (by unfold okT; decide) (by decide) (by decide) (by decide) s4 (by decide)
      by_cases s5 : mb q = 45
      · exact one 45 (by decide) (by unfold okT; decide) (by decide) (by decide) (by decide) s5 (by decide)
      refine ⟨-3, q, q + 1, 0, Or.inr (Or.inr (Or.inl rfl)), q1, by omega, fun _ => by omega, by omega, fun num k hk => ?_, fun a0 s0 w0 k hk => ?_⟩
      · unfold p_R_nextToken p_R_skipBlanks
        refine ⟨_, q3 _ (s_byteAt hn (by omega) ?_)⟩
        rw [e1]
        refine s_isDigR (fun z => absurd ((isB_dig e2).mp z) hd) (fun _ => ct rfl (df hm1 ?_))
        rw [n_p1]
        have hkk := hk num (fun z => absurd z (by decide))
        unfold p_R_isSign
        exact cf (fun z => s1 ((isB_255 e2 99 (by decide)).mp z)) (cf (fun z => s2 ((isB_255 e2 114 (by decide)).mp z)) (cf (fun z => s3 ((isB_255 e2 58 (by decide)).mp z)) (cf (fun z => s4 ((isB_255 e2 59 (by decide)).mp z)) (df (fun z => s5 ((isB_255 e2 45 (by decide)).mp z)) (ct rfl hkk)))))
      · unfold p_M_cut
        refine ⟨_, q4 _ ?_⟩
        unfold p_M_cut_J41
        refine df hne ⟨n_in (by omega), ?_⟩
        rw [hcl, n_p1]
        have hkk := hk w0 (fun z => absurd z (by decide))
        exact s_isDigM (fun z => absurd z hd) (fun _ => dt rfl (cf s1 (cf s2 (cf s3 (cf s4 (df s5 hkk))))))
end LX

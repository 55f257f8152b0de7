/-! PURE: building the graph from the leaves -/
theorem PH : ∀ (N m : Nat) (f : NN), (∀ i, i < m → f i < N) → (∀ i j, i < m → j < m → f i = f j → i = j) → m ≤ N
  | 0, m, f, h1, h2 => by
    rcases Nat.eq_zero_or_pos m with q | q
    · omega
    · exact absurd (h1 0 q) (Nat.not_lt_zero _)
  | N + 1, 0, f, h1, h2 => Nat.zero_le _
  | N + 1, m + 1, f, h1, h2 => by
    have : m ≤ N := PH N m (fun i => if f i = N then f m else f i) (fun i hi => by
        have a := h1 i (by omega)
        have b := h1 m (by omega)
        show (if f i = N then f m else f i) < N
        by_cases q : f i = N
        · rw [if_pos q]
          have : f m ≠ N := fun z => by have := h2 i m (by omega) (by omega) (q.trans z.symm); omega
          omega
        · rw [if_neg q]; omega) (fun i j hi hj hij => by
        have hij : (if f i = N then f m else f i) = (if f j = N then f m else f j) := hij
        by_cases q : f i = N <;> by_cases r : f j = N
        · exact h2 i j (by omega) (by omega) (q.trans r.symm)
        · rw [if_pos q, if_neg r] at hij
          have := h2 m j (by omega) (by omega) hij; omega
        · rw [if_neg q, if_pos r] at hij
          have := h2 i m (by omega) (by omega) hij; omega
        · rw [if_neg q, if_neg r] at hij
          exact h2 i j (by omega) (by omega) hij)
    omega
def RE (g : Nat) (L H : NN) (A : Nat → Prop) : Prop := ∀ Q : Nat → Prop, (∀ i, i < g → Q (i + 2) → Q (L i) ∧ Q (H i)) → (∀ c, A c → Q c) → ∀ i, i < g → Q (i + 2)
def mix (v p x : Nat) : Nat := p + 2 ^ v * (x / 2 ^ v)
def LPg (T : Nat → Bool) (u q g st : Nat) (V L H : NN) (F : NB) (var low high num sides : FF) (S : NN) : Prop :=
  IV g V L H F ∧ AR g V L H var low high ∧ (∀ i, i < g → num i = -1) ∧ st ≤ g ∧ g ≤ st + q ∧ (∀ i, i < g → (i < st → u + 1 < V i) ∧ (st ≤ i → V i = u + 1)) ∧
  (∀ p, p < 2 * 2 ^ u → sides p = sd (S p) ∧ S p < g + 2 ∧ (p < q → u + 1 ≤ lev V (S p) ∧ ∀ x, x < 1024 → F (S p) x = T (mix u p x)) ∧ (q ≤ p → u + 1 < lev V (S p) ∧ ∀ x, x < 1024 → F (S p) x = T (mix (u + 1) p x))) ∧
  RE g L H (fun c => ∃ p, (p < 2 ^ u ∨ (2 ^ u + q ≤ p ∧ p < 2 * 2 ^ u)) ∧ c = S p)
def cap (v : Nat) : Nat := if v = 10 then 0 else if v = 9 then 2 else 270 - 2 ^ v
theorem u_10 {u : Nat} (h : u < 10) : u = 0 ∨ u = 1 ∨ u = 2 ∨ u = 3 ∨ u = 4 ∨ u = 5 ∨ u = 6 ∨ u = 7 ∨ u = 8 ∨ u = 9 := by omega
theorem p_u {u : Nat} (h : u < 10) : 1 ≤ 2 ^ u ∧ 2 ^ u ≤ 512 := ⟨Nat.one_le_two_pow, Nat.pow_le_pow_right (n := 2) (by decide) (show u ≤ 9 by omega)⟩
section BU
variable {g : Nat} {V L H : NN} {F : NB}
theorem pair_inj (hI : IV g V L H F) {i j : Nat} (hi : i < g) (hj : j < g) (a : V i = V j) (b : L i = L j) (c : H i = H j) : i = j := by
  obtain ⟨_, _, _, _, _, _, _, f1⟩ := hI.2.2.1 i hi
  obtain ⟨_, _, _, _, _, _, _, f2⟩ := hI.2.2.1 j hj
  have := hI.2.2.2 (i + 2) (j + 2) (by omega) (by omega) (fun x _ => by rw [f1, f2, a, b, c])
  omega
/-- at the two lowest levels there are few pairs -/
theorem few {st u : Nat} (hI : IV g V L H F) (hst : st ≤ 2) (h1 : st ≤ g) (hlv : ∀ i, i < g → (i < st → u + 1 < V i) ∧ (st ≤ i → V i = u + 1)) : g ≤ st + (st + 2) * (st + 1) := by
  have hc : ∀ i, st ≤ i → i < g → L i < st + 2 ∧ H i < st + 2 ∧ L i ≠ H i := fun i i1 i2 => by
    obtain ⟨_, _, lo, hi, ne, ll, lh, _⟩ := hI.2.2.1 i i2
    have hv := (hlv i i2).2 i1
    refine ⟨?_, ?_, ne⟩
    · rcases Nat.lt_or_ge (L i) (st + 2) with z | z
      · exact z
      · obtain ⟨j, e⟩ : ∃ j, L i = j + 2 := ⟨L i - 2, by omega⟩
        rw [e, lev_2, (hlv j (by omega)).2 (by omega)] at ll
        omega
    · rcases Nat.lt_or_ge (H i) (st + 2) with z | z
      · exact z
      · obtain ⟨j, e⟩ : ∃ j, H i = j + 2 := ⟨H i - 2, by omega⟩
        rw [e, lev_2, (hlv j (by omega)).2 (by omega)] at lh
        omega
  have := PH ((st + 2) * (st + 1)) (g - st) (fun i => (st + 1) * L (st + i) + (if H (st + i) < L (st + i) then H (st + i) else H (st + i) - 1)) (fun i hi => by
      obtain ⟨a, b, c⟩ := hc (st + i) (by omega) (by omega)
      show (st + 1) * L (st + i) + (if H (st + i) < L (st + i) then H (st + i) else H (st + i) - 1) < (st + 2) * (st + 1)
      generalize L (st + i) = l at *
      generalize H (st + i) = h at *
      have hs : st = 0 ∨ st = 1 ∨ st = 2 := by omega
      rcases hs with rfl | rfl | rfl
      · by_cases q : h < l
        · rw [if_pos q]; omega
        · rw [if_neg q]; omega
      · by_cases q : h < l
        · rw [if_pos q]; omega
        · rw [if_neg q]; omega
      · by_cases q : h < l
        · rw [if_pos q]; omega
        · rw [if_neg q]; omega) (fun i j hi hj hij => by
      have hij : (st + 1) * L (st + i) + (if H (st + i) < L (st + i) then H (st + i) else H (st + i) - 1) = (st + 1) * L (st + j) + (if H (st + j) < L (st + j) then H (st + j) else H (st + j) - 1) := hij
      obtain ⟨a, b, c⟩ := hc (st + i) (by omega) (by omega)
      obtain ⟨a2, b2, c2⟩ := hc (st + j) (by omega) (by omega)
      have e : L (st + i) = L (st + j) ∧ H (st + i) = H (st + j) := by
        generalize L (st + i) = l at *
        generalize H (st + i) = h at *
        generalize L (st + j) = l2 at *
        generalize H (st + j) = h2 at *
        have hs : st = 0 ∨ st = 1 ∨ st = 2 := by omega
        rcases hs with rfl | rfl | rfl
        · by_cases q : h < l <;> by_cases r : h2 < l2
          · rw [if_pos q, if_pos r] at hij; omega
          · rw [if_pos q, if_neg r] at hij; omega
          · rw [if_neg q, if_pos r] at hij; omega
          · rw [if_neg q, if_neg r] at hij; omega
        · by_cases q : h < l <;> by_cases r : h2 < l2
          · rw [if_pos q, if_pos r] at hij; omega
          · rw [if_pos q, if_neg r] at hij; omega
          · rw [if_neg q, if_pos r] at hij; omega
          · rw [if_neg q, if_neg r] at hij; omega
        · by_cases q : h < l <;> by_cases r : h2 < l2
          · rw [if_pos q, if_pos r] at hij; omega
          · rw [if_pos q, if_neg r] at hij; omega
          · rw [if_neg q, if_pos r] at hij; omega
          · rw [if_neg q, if_neg r] at hij; omega
      have := pair_inj hI (i := st + i) (j := st + j) (by omega) (by omega) (by rw [(hlv (st + i) (by omega)).2 (by omega), (hlv (st + j) (by omega)).2 (by omega)]) e.1 e.2
      omega)
  omega
theorem capS {T : Nat → Bool} {u q st : Nat} {var low high num sides : FF} {S : NN} (h : LPg T u q g st V L H F var low high num sides S) (hu : u < 10) (hq : q ≤ 2 ^ u) (hs : st ≤ cap (u + 1)) : g ≤ cap u ∧ (q < 2 ^ u → g < 269) := by
  obtain ⟨hI, -, -, h1, h2, h3, -, -⟩ := h
  rcases u_10 hu with rfl | rfl | rfl | rfl | rfl | rfl | rfl | rfl | rfl | rfl
  · simp [cap] at hs ⊢; omega
  · simp [cap] at hs ⊢; omega
  · simp [cap] at hs ⊢; omega
  · simp [cap] at hs ⊢; omega
  · simp [cap] at hs ⊢; omega
  · simp [cap] at hs ⊢; omega
  · simp [cap] at hs ⊢; omega
  · simp [cap] at hs ⊢; omega
  · simp [cap] at hs ⊢
    have := few hI (by omega) h1 h3
    have hh : st = 0 ∨ st = 1 ∨ st = 2 := by omega
    rcases hh with rfl | rfl | rfl <;> omega
  · simp [cap] at hs ⊢
    subst hs
    have := few hI (by omega) h1 h3
    omega
theorem mix_lo {u p x : Nat} (h : x.testBit u = false) : mix (u + 1) p x = mix u p x := by
  unfold mix
  rw [Nat.testBit_eq_decide_div_mod_eq] at h
  have h : x / 2 ^ u % 2 ≠ 1 := by simpa using h
  have e : x / 2 ^ (u + 1) = x / 2 ^ u / 2 := by rw [Nat.pow_succ, Nat.div_div_eq_div_mul]
  rw [e, Nat.pow_succ, Nat.mul_assoc]
  have : 2 * (x / 2 ^ u / 2) = x / 2 ^ u := by omega
  rw [this]
theorem mix_hi {u p x : Nat} (h : x.testBit u = true) : mix (u + 1) (p + 2 ^ u) x = mix u p x := by
  unfold mix
  rw [Nat.testBit_eq_decide_div_mod_eq] at h
  have h : x / 2 ^ u % 2 = 1 := by simpa using h
  have e : x / 2 ^ (u + 1) = x / 2 ^ u / 2 := by rw [Nat.pow_succ, Nat.div_div_eq_div_mul]
  rw [e, Nat.pow_succ, Nat.mul_assoc]
  have : x / 2 ^ u = 2 * (x / 2 ^ u / 2) + 1 := by omega
  generalize 2 * (x / 2 ^ u / 2) = y at *
  rw [this, Nat.mul_add, Nat.mul_one]; omega
theorem bv_n {u : Nat} (hu : u < 10) : (1 : Int32) <<< ((nI (u + 1) - 1) &&& 31) = nI (2 ^ u) := by
  rcases u_10 hu with rfl | rfl | rfl | rfl | rfl | rfl | rfl | rfl | rfl | rfl <;> decide
end BU
theorem lev_cong {V V' : NN} {g c : Nat} (h : ∀ i, i < g → V' i = V i) (hc : c < g + 2) : lev V' c = lev V c := by
  unfold lev
  by_cases q : c < 2
  · rw [if_pos q, if_pos q]
  · rw [if_neg q, if_neg q, h _ (by omega)]
theorem l_b60 {T : Nat → Bool} {u st : Nat} {k : Int32 → FF → FF → FF → FF → FF → Prop} (hu : u < 10) (hs : st ≤ cap (u + 1))
    (hk : ∀ (g : Nat) (V L H : NN) (F : NB) (var low high num sides : FF) (S : NN), LPg T u (2 ^ u) g st V L H F var low high num sides S → k (nI g) var low high num sides) :
    ∀ (d q g : Nat) (V L H : NN) (F : NB) (var low high num sides : FF) (S : NN), d + q = 2 ^ u → LPg T u q g st V L H F var low high num sides S → p_G_build_L60 (nI (u + 1)) (nI st) k (d + 1) (nI q) (nI g) var low high num sides
  | 0, q, g, V, L, H, F, var, low, high, num, sides, S, hd, h => by
    have : q = 2 ^ u := by omega
    subst this
    have hp := p_u hu
    unfold p_G_build_L60 p_B_bitOf
    rw [bv_n hu]
    exact ct (n_le (Nat.le_refl _)) (hk g V L H F var low high num sides S h)
  | d + 1, q, g, V, L, H, F, var, low, high, num, sides, S, hd, h => by
    have hp := p_u hu
    have hq : q < 2 ^ u := by omega
    have hcap := (capS h hu (by omega) hs).2 hq
    have h' := h
    obtain ⟨hI, hA, hm, h1, h2, h3, h4, h5⟩ := h
    obtain ⟨a1, a2, -, a3⟩ := h4 q (by omega)
    obtain ⟨b1, b2, -, b3⟩ := h4 (q + 2 ^ u) (by omega)
    obtain ⟨a4, a5⟩ := a3 (Nat.le_refl _)
    obtain ⟨b4, b5⟩ := b3 (by omega)
    have ec : (nI q).toNatClampNeg = q := n_cl
    have ec2 : (nI (q + 2 ^ u)).toNatClampNeg = q + 2 ^ u := n_cl
    unfold p_G_build_L60 p_B_bitOf
    rw [bv_n hu]
    dsimp only
    rw [nI_add, ec, ec2, a1, b1, n_p1 q]
    refine cf (n_nle (by omega)) ⟨n_in (by omega), n_in (by omega), s_join hI hA hcap hm hu h1 h3 a2 b2 a4 b4 (fun g' V' L' H' F' var' low' high' num' c j1 j2 j3 j4 j5 j6 j7 j8 j9 j10 j11 j12 => ?_)⟩
    refine l_b60 hu hs hk d (q + 1) g' V' L' H' F' var' low' high' num' (upd sides q (sd c)) (uN S q c) (by omega) ⟨j1, j2, j3, by omega, by omega, fun i hi => ?_, fun p hp2 => ?_, ?_⟩
    · rcases Nat.lt_or_ge i g with z | z
      · rw [(j6 i z).1]; exact h3 i z
      · exact ⟨fun w => by omega, fun _ => j8 i z hi⟩
    · by_cases z : p = q
      · subst z
        rw [upd_s, uN_s]
        refine ⟨rfl, j9, fun _ => ⟨j10, fun x hx => ?_⟩, fun w => by omega⟩
        rw [j11]
        unfold nodeF
        cases hb : x.testBit u
        · rw [if_neg (by decide), a5 x hx, mix_lo hb]
        · rw [if_pos rfl, b5 x hx, mix_hi hb]
      · rw [upd_n z, uN_n z]
        obtain ⟨c1, c2, c3, c4⟩ := h4 p hp2
        rw [lev_cong (fun i hi => (j6 i hi).1) c2, j7 _ c2]
        exact ⟨c1, by omega, fun w => c3 (by omega), fun w => c4 (by omega)⟩
    · intro Q hQ hAc i hi
      have hc : Q c := hAc c ⟨q, Or.inl hq, by rw [uN_s]⟩
      have hlh : Q (S q) ∧ Q (S (q + 2 ^ u)) := by
        rcases j12 with ⟨e1, e2, e3⟩ | ⟨i0, e1, e2, e3, e4, e5⟩
        · rw [← e1, ← e2]; exact ⟨hc, hc⟩
        · rw [e1] at hc
          have := hQ i0 e2 hc
          rw [e3, e4] at this; exact this
      have old : ∀ j, j < g → Q (j + 2) := h5 Q (fun j hj hq2 => by have := hQ j (by omega) hq2; rw [(j6 j hj).2.1, (j6 j hj).2.2] at this; exact this) (fun d2 hd2 => by
        obtain ⟨p, hp1, rfl⟩ := hd2
        by_cases z : p = q
        · rw [z]; exact hlh.1
        · by_cases y : p = q + 2 ^ u
          · rw [y]; exact hlh.2
          · exact hAc _ ⟨p, by omega, by rw [uN_n z]⟩)
      rcases Nat.lt_or_ge i g with z | z
      · exact old i z
      · rcases j12 with ⟨e1, e2, e3⟩ | ⟨i0, e1, e2, e3, e4, e5⟩
        · omega
        · rw [e5 i z hi, ← e1]; exact hc
/-- what stands when the levels above v are done -/
def OL (T : Nat → Bool) (v g : Nat) (V L H : NN) (F : NB) (var low high num sides : FF) (S : NN) : Prop :=
  IV g V L H F ∧ AR g V L H var low high ∧ (∀ i, i < g → num i = -1) ∧ g ≤ cap v ∧ (∀ i, i < g → v < V i) ∧ (∀ p, p < 2 ^ v → sides p = sd (S p) ∧ S p < g + 2 ∧ v < lev V (S p) ∧ ∀ x, x < 1024 → F (S p) x = T (mix v p x)) ∧ RE g L H (fun c => ∃ p, p < 2 ^ v ∧ c = S p)
theorem l_b46 {T : Nat → Bool} {nod wai : FF} {k : Int32 → FF → FF → FF → FF → FF → FF → FF → Prop}
    (hk : ∀ (g : Nat) (V L H : NN) (F : NB) (var low high num sides : FF) (S : NN), OL T 0 g V L H F var low high num sides S → p_G_numberFrom low high num nod wai (sd (S 0)) (fun a b c => k (nI g) var low high a b sides c)) :
    ∀ (v g : Nat) (V L H : NN) (F : NB) (var low high num sides : FF) (S : NN), v ≤ 10 → OL T v g V L H F var low high num sides S → p_G_build_L46 nod wai k (v + 1) (nI v) (nI g) var low high num sides
  | 0, g, V, L, H, F, var, low, high, num, sides, S, hv, h => by
    unfold p_G_build_L46
    have e0 : sides (0 : Int32).toNatClampNeg = sd (S 0) := (h.2.2.2.2.2.1 0 (by decide)).1
    refine ct (by decide) ?_
    rw [e0]
    exact hk g V L H F var low high num sides S h
  | u + 1, g, V, L, H, F, var, low, high, num, sides, S, hv, h => by
    obtain ⟨hI, hA, hm, h1, h2, h3, h4⟩ := h
    have e2 : 2 ^ (u + 1) = 2 * 2 ^ u := by rw [Nat.pow_succ, Nat.mul_comm]
    rw [e2] at h3 h4
    unfold p_G_build_L46
    refine cf (n_nlt (b := 1) (by omega)) ⟨2 ^ u + 1, ?_⟩
    refine l_b60 (T := T) (by omega) h1 (fun g' V' L' H' F' var' low' high' num' sides' S' h' => ?_) (2 ^ u) 0 g V L H F var low high num sides S (by omega) ⟨hI, hA, hm, Nat.le_refl _, by omega, fun i hi => ⟨fun _ => h2 i hi, fun z => by omega⟩, fun p hp => ?_, ?_⟩
    · rw [n_m1]
      have hc := (capS h' (by omega) (Nat.le_refl _) h1).1
      obtain ⟨hI', hA', hm', q1, q2, q3, q4, q5⟩ := h'
      refine l_b46 hk u g' V' L' H' F' var' low' high' num' sides' S' (by omega) ⟨hI', hA', hm', hc, fun i hi => ?_, fun p hp => ?_, fun Q a b => q5 Q a (fun c ⟨p, hp, e⟩ => b c ⟨p, by omega, e⟩)⟩
      · rcases Nat.lt_or_ge i g with z | z
        · have := (q3 i hi).1 z; omega
        · have := (q3 i hi).2 z; omega
      · obtain ⟨c1, c2, c3, -⟩ := q4 p (by omega)
        obtain ⟨c4, c5⟩ := c3 hp
        exact ⟨c1, c2, by omega, c5⟩
    · obtain ⟨c1, c2, c3, c4⟩ := h3 p hp
      exact ⟨c1, c2, fun z => by omega, fun _ => ⟨c3, c4⟩⟩
    · exact fun Q a b => h4 Q a (fun c ⟨p, hp, e⟩ => b c ⟨p, by omega, e⟩)
/-! the leaves -/
def tbl (f : FL) (e x : Nat) : Bool := bL (f (16 * e + x / 64)) (x % 64)
theorem s_bitAt {f : FL} {e x : Nat} {k : Int32 → Prop} (he : e ≤ 200) (hx : x < 1024) (hk : k (if tbl f e x = true then 1 else 0)) : p_G_bitAt f (nI (16 * e)) (nI x) k := by
  unfold p_G_bitAt
  have e1 : nI x / 64 = nI (x / 64) := pk_div (d := 64) (by omega) (by decide) (by decide)
  have e2 : nI x - nI (x / 64) * 64 = nI (x % 64) := by rw [← e1]; exact pk_rem (d := 64) (by omega) (by decide) (by decide)
  have ec : (nI (16 * e + x / 64)).toNatClampNeg = 16 * e + x / 64 := n_cl
  rw [e1, e2, nI_add, ec]
  refine cf (n_nlt (b := 0) (Nat.zero_le _)) (cf (n_nlt (b := 0) (Nat.zero_le _)) (ct (n_lt (b := 3216) (by omega)) ⟨n_in (by omega), ?_⟩))
  rw [bit_1, bL_ushr (by omega), Nat.add_zero]
  exact hk
theorem l_b7 {f : FL} {e : Nat} {k : FF → Prop} (he : e ≤ 200) (hk : ∀ s : FF, (∀ x, x < 1024 → s x = sd (if tbl f e x = true then 1 else 0)) → k s) : ∀ (d x : Nat) (s : FF), d + x = 1024 → (∀ y, y < x → s y = sd (if tbl f e y = true then 1 else 0)) → p_G_build_L7 f (nI (16 * e)) k (d + 1) (nI x) s
  | 0, x, s, hd, hs => by
    have : x = 1024 := by omega
    subst this
    unfold p_G_build_L7
    exact ct (by decide) (hk s hs)
  | d + 1, x, s, hd, hs => by
    unfold p_G_build_L7
    have ec : (nI x).toNatClampNeg = x := n_cl
    rw [ec, n_p1]
    refine cf (n_nle (a := 1024) (by omega)) (s_bitAt he (by omega) ?_)
    have next : ∀ z : Int32, z = sd (if tbl f e x = true then 1 else 0) → p_G_build_L7 f (nI (16 * e)) k (d + 1) (nI (x + 1)) (upd s x z) := fun z hz =>
      l_b7 he hk d (x + 1) _ (by omega) (fun y hy => by
        by_cases q : y = x
        · rw [q, upd_s]; exact hz
        · rw [upd_n q]; exact hs y (by omega))
    by_cases t : tbl f e x = true
    · rw [if_pos t] at next
      rw [if_pos t]
      exact dt rfl ⟨n_in (by omega), next _ rfl⟩
    · rw [if_neg t] at next
      rw [if_neg t]
      exact df (by decide) ⟨n_in (by omega), next _ rfl⟩
theorem s_build {f : FL} {e : Nat} {var low high num nod sides wai : FF} {k : Int32 → FF → FF → FF → FF → FF → FF → FF → Prop} (he : e ≤ 200)
    (hk : ∀ (g : Nat) (V L H : NN) (F : NB) (var low high num sides : FF) (S : NN), OL (tbl f e) 0 g V L H F var low high num sides S → p_G_numberFrom low high num nod wai (sd (S 0)) (fun a b c => k (nI g) var low high a b sides c)) :
    p_G_build f var low high num nod sides wai (nI (16 * e)) k := by
  unfold p_G_build
  refine ⟨1024 + 1, l_b7 he (fun s hs => ⟨10 + 1, l_b46 hk 10 0 (fun _ => 0) (fun _ => 0) (fun _ => 0) (fun c _ => decide (c = 1)) var low high num s (fun x => if tbl f e x = true then 1 else 0) (Nat.le_refl _) ⟨⟨fun _ => rfl, fun _ => rfl, fun i hi => absurd hi (Nat.not_lt_zero i), fun c d hc hd q => ?_⟩, fun i hi => absurd hi (Nat.not_lt_zero i), fun i hi => absurd hi (Nat.not_lt_zero i), Nat.zero_le _, fun i hi => absurd hi (Nat.not_lt_zero i), fun p hp => ?_, fun Q a b i hi => absurd hi (Nat.not_lt_zero i)⟩⟩) 1024 0 sides (by omega) (fun y hy => absurd hy (Nat.not_lt_zero y))⟩
  · have := q 0 (by decide)
    have hc : c = 0 ∨ c = 1 := by omega
    have hd : d = 0 ∨ d = 1 := by omega
    rcases hc with rfl | rfl <;> rcases hd with rfl | rfl <;> simp_all
  · refine ⟨hs p hp, ?_, ?_, fun x hx => ?_⟩
    · show (if tbl f e p = true then 1 else 0) < 0 + 2
      by_cases t : tbl f e p = true
      · rw [if_pos t]; decide
      · rw [if_neg t]; decide
    · show 10 < lev (fun _ => 0) (if tbl f e p = true then 1 else 0)
      by_cases t : tbl f e p = true
      · rw [if_pos t]; decide
      · rw [if_neg t]; decide
    · have em : mix 10 p x = p := by unfold mix; rw [Nat.div_eq_of_lt (show x < 2 ^ 10 from hx)]; rfl
      rw [em]
      show decide ((if tbl f e p = true then 1 else 0) = 1) = tbl f e p
      by_cases t : tbl f e p = true
      · simp [t]
      · simp [t]

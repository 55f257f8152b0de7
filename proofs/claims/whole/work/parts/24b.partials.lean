/-! PURE: the partial formulas' words -/
abbrev FL : Type := Nat → Int64
section VL
variable (lab : FF) (a b : Int32) (sys c : Nat) (t : CS)
def giv (i w : Nat) : Int64 := if nI c < cB t i then anyS (selS lab a b sys 1 (cP t i)) (selS lab a b sys 1 (cN t i)) w 10 ^^^ (-1) else anyS (selS lab a b sys 2 (cP t i)) (selS lab a b sys 2 (cN t i)) w 10
def cmb (v w : Nat) (p q : Int64) : Int64 := if labS lab a b sys v = 1 then p ||| q else if labS lab a b sys v = 2 then p &&& q else (tv v w ||| p) &&& ((tv v w ^^^ (-1)) ||| q)
def PF (w : Nat) (f : Nat → Int64) (i : Nat) : Int64 := if cB t i = 0 then cmb lab a b sys (cV t i).toNatClampNeg w (f (cL t i).toNatClampNeg) (f (cR t i).toNatClampNeg) else giv lab a b sys c t i w
def vlF (w : Nat) : Nat → Nat → Int64
  | 0, _ => 0
  | k + 1, i => PF lab a b sys c t w (vlF w k) i
def VL (w i : Nat) : Int64 := vlF lab a b sys c t w 202 i
end VL
section VP
variable {lab : FF} {a b : Int32} {sys c : Nat} {t : CS}
theorem PF_cong {w i : Nat} {f g : Nat → Int64} (ok : OKc (cB t) (cL t) (cR t) (cV t) i) (hi : i ≤ 201) (h : ∀ j, 1 ≤ j → j < i → f j = g j) : PF lab a b sys c t w f i = PF lab a b sys c t w g i := by
  unfold PF
  by_cases q : cB t i = 0
  · obtain ⟨x, y, z, x1, x2, y1, y2, z1, z2, -, -, -, ex, ey⟩ := ok.par hi q
    rw [if_pos q, if_pos q, ex, ey, h x x1 x2, h y y1 y2]
  · rw [if_neg q, if_neg q]
theorem vlF_up (hg : GS t) (w : Nat) : ∀ (k i : Nat), i < k → 1 ≤ i → i ≤ t.1 → vlF lab a b sys c t w k i = vlF lab a b sys c t w (k + 1) i
  | 0, i, h, _, _ => absurd h (Nat.not_lt_zero i)
  | k + 1, i, h, h1, h2 => by
    show PF lab a b sys c t w (vlF lab a b sys c t w k) i = PF lab a b sys c t w (vlF lab a b sys c t w (k + 1)) i
    exact PF_cong (hg.2 i h1 h2).1 (by have := hg.1; omega) (fun j j1 j2 => vlF_up hg w k j (by omega) j1 (by omega))
theorem VL_eq (hg : GS t) {w i : Nat} (h1 : 1 ≤ i) (h2 : i ≤ t.1) : VL lab a b sys c t w i = PF lab a b sys c t w (VL lab a b sys c t w) i := by
  show PF lab a b sys c t w (vlF lab a b sys c t w 201) i = _
  have := hg.1
  exact PF_cong (hg.2 i h1 h2).1 (by omega) (fun j j1 j2 => vlF_up hg w 201 j (by omega) j1 (by omega))
/-! the class -/
theorem sel_c {LA : Int32} {l : Int32} (hl : ¬ l = 0) (hM : ∀ v, 1 ≤ v → v ≤ 10 → bt LA v = decide (labS lab a b sys v = l)) (P N : Int32) (w : Nat) : anyS (bt (P &&& LA)) (bt (N &&& LA)) w 10 = anyS (selS lab a b sys l P) (selS lab a b sys l N) w 10 := by
  refine anyS_cong 10 (fun v v1 v2 => ?_)
  unfold selS
  rw [bt_and, bt_and, hM v v1 v2]
  constructor
  · cases bt P v <;> simp [hl]
  · cases bt N v <;> simp [hl]
variable {n e : Nat} {cb cl cr cv cp cn cx cD mD : FF} {LA LB : Int32}
theorem l_work {w : Nat} {k : FL → Prop} (hg : GS t) (hn : t.1 = n) (he : e ≤ n) (hE : EQc n cb cl cr cv cp cn cx (cB t) (cL t) (cR t) (cV t) (cP t) (cN t) (cX t)) (hN : RN n e (cB t) (cL t) (cR t) cD mD) (hM : MK lab a b sys LA LB)
    (hk : ∀ row : FL, (∀ i, 1 ≤ i → i ≤ e → mD i ≠ 0 → row i = VL lab a b sys c t w i) → k row) : ∀ (d i : Nat) (row : FL), d + i = e + 1 → 1 ≤ i → (∀ j, 1 ≤ j → j < i → mD j ≠ 0 → row j = VL lab a b sys c t w j) → p_F_workOut_L2 (nI e) cb cl cr cv cp cn cD (nI c) LA LB (nI w) k (d + 1) (nI i) row
  | 0, i, row, hd, hi, hr => by
    have := hg.1
    unfold p_F_workOut_L2
    exact ct (n_lt (by omega)) (hk row (fun j a b c => hr j a (by omega) c))
  | d + 1, i, row, hd, hi, hr => by
    have h200 := hg.1
    have hin : i ≤ n := by omega
    obtain ⟨e1, e2, e3, e4, e5, e6, -, ok⟩ := hE i hi hin
    have e8 := hN.1 i hi hin
    have hv := VL_eq (lab := lab) (a := a) (b := b) (sys := sys) (c := c) hg (w := w) hi (by omega)
    have hcl : (nI i).toNatClampNeg = i := n_cl
    have next : ∀ row2 : FL, (∀ j, j ≠ i → row2 j = row j) → (mD i ≠ 0 → row2 i = VL lab a b sys c t w i) → p_F_workOut_L2 (nI e) cb cl cr cv cp cn cD (nI c) LA LB (nI w) k (d + 1) (nI (i + 1)) row2 := fun row2 q1 q2 =>
      l_work hg hn he hE hN hM hk d (i + 1) row2 (by omega) (by omega) (fun j j1 j2 j3 => by
        by_cases z : j = i
        · rw [z]; rw [z] at j3; exact q2 j3
        · rw [q1 j z]; exact hr j j1 (by omega) j3)
    unfold p_F_workOut_L2
    refine cf (n_nlt (by omega)) ⟨n_in (by omega), ?_⟩
    rw [hcl, n_p1, e8, e1]
    refine ⟨fun q => next row (fun _ _ => rfl) (fun z => absurd q z), fun q => ⟨fun q2 => ?_, fun q2 => ?_⟩⟩
    · have hpf : VL lab a b sys c t w i = giv lab a b sys c t i w := by rw [hv]; unfold PF; rw [if_neg q2]
      unfold giv at hpf
      unfold p_F_ofGiven
      refine ⟨n_in (by omega), ?_⟩
      rw [hcl, e1, e5, e6]
      refine ⟨fun q3 => s_any (next _ (fun j hj => updL_n hj) (fun _ => ?_)), fun q3 => s_any (next _ (fun j hj => updL_n hj) (fun _ => ?_))⟩
      · rw [updL_s, hpf, if_pos q3, sel_c (l := 1) (by decide) (fun v v1 v2 => (hM v v1 v2).1)]
      · rw [updL_s, hpf, if_neg q3, sel_c (l := 2) (by decide) (fun v v1 v2 => (hM v v1 v2).2)]
    · have hpf : VL lab a b sys c t w i = cmb lab a b sys (cV t i).toNatClampNeg w (VL lab a b sys c t w (cL t i).toNatClampNeg) (VL lab a b sys c t w (cR t i).toNatClampNeg) := by rw [hv]; unfold PF; rw [if_pos q2]
      obtain ⟨x, y, z, x1, x2, y1, y2, z1, z2, hl, hr2, hz, ex, ey⟩ := ok.par (by omega) q2
      have ez : (cV t i).toNatClampNeg = z := by rw [hz]; exact n_cl
      have hpar := hN.2.2.2.2.2 i hi (by omega) q q2
      rw [ex, ey] at hpar
      rw [ex, ey, ez] at hpf
      have rx := hr x x1 x2 (by rw [hpar.1]; decide)
      have ry := hr y y1 y2 (by rw [hpar.2]; decide)
      unfold cmb at hpf
      unfold p_F_ofResolvent p_B_bitOf
      rw [hcl, e2, e3, e4, hl, hr2, hz]
      have ecx : (nI x).toNatClampNeg = x := n_cl
      have ecy : (nI y).toNatClampNeg = y := n_cl
      rw [ecx, ecy, rx, ry]
      refine ⟨n_in (by omega), n_in (by omega), n_in (by omega), fun q3 => ⟨fun q4 => s_ofVar z1 z2 (next _ (fun j hj => updL_n hj) (fun _ => ?_)), fun q4 => next _ (fun j hj => updL_n hj) (fun _ => ?_)⟩, fun q3 => next _ (fun j hj => updL_n hj) (fun _ => ?_)⟩
      · have m1 := (hM z z1 z2).1
        have m2 := (hM z z1 z2).2
        rw [(bv_and z1 z2).mp q3] at m1
        rw [(bv_and z1 z2).mp q4] at m2
        rw [updL_s, hpf, if_neg (by simpa using m1.symm), if_neg (by simpa using m2.symm)]
      · have m1 := (hM z z1 z2).1
        have m2 := (hM z z1 z2).2
        rw [(bv_and z1 z2).mp q3] at m1
        rw [(bv_and' z1 z2).mp q4] at m2
        rw [updL_s, hpf, if_neg (by simpa using m1.symm), if_pos (by simpa using m2.symm)]
      · have m1 := (hM z z1 z2).1
        rw [(bv_and' z1 z2).mp q3] at m1
        rw [updL_s, hpf, if_pos (by simpa using m1.symm)]
theorem s_work {w : Nat} {k : FL → Prop} {row : FL} (hg : GS t) (hn : t.1 = n) (he : e ≤ n) (hE : EQc n cb cl cr cv cp cn cx (cB t) (cL t) (cR t) (cV t) (cP t) (cN t) (cX t)) (hN : RN n e (cB t) (cL t) (cR t) cD mD) (hM : MK lab a b sys LA LB)
    (hk : ∀ row : FL, (∀ i, 1 ≤ i → i ≤ e → mD i ≠ 0 → row i = VL lab a b sys c t w i) → k row) : p_F_workOut (nI e) cb cl cr cv cp cn cD (nI c) LA LB row (nI w) k := by
  unfold p_F_workOut
  exact ⟨e + 1, l_work hg hn he hE hN hM hk e 1 row (by omega) (by omega) (fun j a b => by omega)⟩
/-! the reference -/
theorem l_p43 {i : Nat} {k : FL → Prop} (hg : GS t) (hs : sys ≤ 3) (hi1 : 1 ≤ i) (hi : i ≤ t.1) (of0 : FL) (hpar : cB t i = 0 → ∀ w, w < 16 → of0 (16 * (cL t i).toNatClampNeg + w) = VL lab a b sys c t w (cL t i).toNatClampNeg ∧ of0 (16 * (cR t i).toNatClampNeg + w) = VL lab a b sys c t w (cR t i).toNatClampNeg)
    (hk : ∀ of : FL, (∀ w, w < 16 → of (16 * i + w) = VL lab a b sys c t w i) → (∀ j, (j < 16 * i ∨ 16 * i + 16 ≤ j) → of j = of0 j) → k of) : ∀ (d w : Nat) (of : FL), d + w = 16 → (∀ u, u < w → of (16 * i + u) = VL lab a b sys c t u i) → (∀ j, (j < 16 * i ∨ 16 * i + 16 ≤ j) → of j = of0 j) → p_M_partials_L43 (cP t) (cN t) (cB t) (cL t) (cR t) (cV t) lab (nI c) (nI sys) a b (nI i) k (d + 1) (nI w) of
  | 0, w, of, hd, h1, h2 => by
    have : w = 16 := by omega
    subst this
    unfold p_M_partials_L43
    exact ct (by decide) (hk of h1 h2)
  | d + 1, w, of, hd, h1, h2 => by
    have h200 := hg.1
    have hcl : (nI i).toNatClampNeg = i := n_cl
    have hv := VL_eq (lab := lab) (a := a) (b := b) (sys := sys) (c := c) hg (w := w) hi1 hi
    have e16 : (16 : Int32) * nI i + nI w = nI (16 * i + w) := by rw [show (16 : Int32) = nI 16 from rfl, pk_mul, nI_add]
    have ecl : (nI (16 * i + w)).toNatClampNeg = 16 * i + w := n_cl
    have next : ∀ x : Int64, x = VL lab a b sys c t w i → p_M_partials_L43 (cP t) (cN t) (cB t) (cL t) (cR t) (cV t) lab (nI c) (nI sys) a b (nI i) k (d + 1) (nI (w + 1)) (vp_updL of (16 * i + w) x) := fun x hx =>
      l_p43 hg hs hi1 hi of0 hpar hk d (w + 1) _ (by omega) (fun u hu => by
        by_cases z : u = w
        · rw [z, updL_s]; exact hx
        · rw [updL_n (by omega)]; exact h1 u (by omega)) (fun j hj => by rw [updL_n (by omega)]; exact h2 j hj)
    have hb0 := b_le0 (hg.2 i hi1 hi).1
    unfold p_M_partials_L43
    refine cf (n_nle (a := 16) (by omega)) ⟨n_in (by omega), ?_⟩
    rw [hcl, n_p1, e16, ecl]
    refine ⟨fun q => ?_, fun q => ?_⟩
    · have q2 := hb0.mp q
      have hpf : VL lab a b sys c t w i = cmb lab a b sys (cV t i).toNatClampNeg w (VL lab a b sys c t w (cL t i).toNatClampNeg) (VL lab a b sys c t w (cR t i).toNatClampNeg) := by rw [hv]; unfold PF; rw [if_pos q2]
      obtain ⟨x, y, z, x1, x2, y1, y2, z1, z2, hl, hr2, hz, ex, ey⟩ := (hg.2 i hi1 hi).1.par (by omega) q2
      have ez : (cV t i).toNatClampNeg = z := by rw [hz]; exact n_cl
      have hp := hpar q2 w (by omega)
      rw [ex, ey] at hp
      rw [ex, ey, ez] at hpf
      have f1 : (16 : Int32) * nI x + nI w = nI (16 * x + w) := by rw [show (16 : Int32) = nI 16 from rfl, pk_mul, nI_add]
      have f2 : (16 : Int32) * nI y + nI w = nI (16 * y + w) := by rw [show (16 : Int32) = nI 16 from rfl, pk_mul, nI_add]
      have g1 : (nI (16 * x + w)).toNatClampNeg = 16 * x + w := n_cl
      have g2 : (nI (16 * y + w)).toNatClampNeg = 16 * y + w := n_cl
      rw [hl, hr2, hz, f1, f2, g1, g2]
      have o1 : of (16 * x + w) = VL lab a b sys c t w x := by rw [h2 _ (by omega)]; exact hp.1
      have o2 : of (16 * y + w) = VL lab a b sys c t w y := by rw [h2 _ (by omega)]; exact hp.2
      unfold cmb at hpf
      refine s_labelOf hs z1 z2 ⟨n_in (by omega), fun v10 e10 => ⟨n_in (by omega), fun v12 e12 => s_word z1 z2 ?_⟩⟩
      rw [e10, e12, o1, o2]
      refine ⟨fun q3 => ⟨fun q4 v7 e7 => ⟨n_in (by omega), ?_⟩, fun q4 => ⟨n_in (by omega), next _ ?_⟩⟩, fun q3 => ⟨n_in (by omega), next _ ?_⟩⟩
      · rw [e7]; refine next _ ?_
        rw [hpf, if_neg q3, if_neg q4]
      · rw [hpf, if_neg q3, if_pos q4]
      · rw [hpf, if_pos q3]
    · have q2 : ¬ cB t i = 0 := fun z => q (hb0.mpr z)
      have hpf : VL lab a b sys c t w i = giv lab a b sys c t i w := by rw [hv]; unfold PF; rw [if_neg q2]
      unfold giv at hpf
      refine ⟨fun q3 => s_sum (by omega) hs ⟨n_in (by omega), next _ ?_⟩, fun q3 => s_sum (by omega) hs ⟨n_in (by omega), next _ ?_⟩⟩
      · rw [hpf, if_pos q3]
      · rw [hpf, if_neg q3]
theorem l_p18 {k : FL → Prop} (hg : GS t) (hs : sys ≤ 3) (hn : t.1 = n) (hN : RN n e (cB t) (cL t) (cR t) cD mD) (hk : ∀ of : FL, (∀ i, 1 ≤ i → i ≤ n → mD i ≠ 0 → ∀ w, w < 16 → of (16 * i + w) = VL lab a b sys c t w i) → k of) : ∀ (d i : Nat) (of : FL), d + i = n + 1 → 1 ≤ i → (∀ j, 1 ≤ j → j < i → mD j ≠ 0 → ∀ w, w < 16 → of (16 * j + w) = VL lab a b sys c t w j) → p_M_partials_L18 (nI n) (cP t) (cN t) (cB t) (cL t) (cR t) (cV t) mD lab (nI c) (nI sys) a b k (d + 1) (nI i) of
  | 0, i, of, hd, hi, ho => by
    have := hg.1
    unfold p_M_partials_L18
    exact ct (n_lt (by omega)) (hk of (fun j a b c => ho j a (by omega) c))
  | d + 1, i, of, hd, hi, ho => by
    have h200 := hg.1
    unfold p_M_partials_L18
    refine cf (n_nlt (by omega)) ⟨n_in (by omega), ?_⟩
    rw [n_cl, n_p1]
    refine ⟨fun q => ⟨17, l_p43 hg hs hi (by omega) of (fun qb w hw => ?_) (fun of2 h1 h2 => ?_) 16 0 of (by omega) (fun u hu => by omega) (fun _ _ => rfl)⟩, fun q => ?_⟩
    · have hie : i ≤ e := by
        rcases Nat.lt_or_ge e i with z | z
        · exact absurd (hN.2.2.2.1 i z (by omega)) q
        · exact z
      obtain ⟨x, y, z, x1, x2, y1, y2, z1, z2, hl, hr2, hz, ex, ey⟩ := (hg.2 i hi (by omega)).1.par (by omega) qb
      have hp := hN.2.2.2.2.2 i hi hie q qb
      rw [ex, ey] at hp
      rw [ex, ey]
      exact ⟨ho x x1 x2 (by rw [hp.1]; decide) w hw, ho y y1 y2 (by rw [hp.2]; decide) w hw⟩
    · refine l_p18 hg hs hn hN hk d (i + 1) of2 (by omega) (by omega) (fun j j1 j2 j3 w hw => ?_)
      by_cases z : j = i
      · rw [z]; exact h1 w hw
      · rw [h2 _ (by omega)]; exact ho j j1 (by omega) j3 w hw
    · refine l_p18 hg hs hn hN hk d (i + 1) of (by omega) (by omega) (fun j j1 j2 j3 w hw => ?_)
      by_cases z : j = i
      · rw [z] at j3; exact absurd q j3
      · exact ho j j1 (by omega) j3 w hw
end VP
/-- the partial formulas of one cut and system, from the clauses' relation -/
theorem s_partials {n e c sys : Nat} {t : CS} {cb cl cr cv cp cn cx cD mD lab : FF} {of : FL} {k : FL → Prop} (hg : GS t) (hs : sys ≤ 3) (hn : t.1 = n) (hE : EQc n cb cl cr cv cp cn cx (cB t) (cL t) (cR t) (cV t) (cP t) (cN t) (cX t)) (hN : RN n e (cB t) (cL t) (cR t) cD mD)
    (hk : ∀ of : FL, (∀ i, 1 ≤ i → i ≤ n → mD i ≠ 0 → ∀ w, w < 16 → of (16 * i + w) = VL lab (occA (cP t) (cN t) (cB t) c n) (occB (cP t) (cN t) (cB t) c n) sys c t w i) → k of) : p_M_partials (nI n) (cP t) (cN t) (cB t) (cL t) (cR t) (cV t) mD lab of (nI c) (nI sys) k := by
  unfold p_M_partials
  have h200 := hg.1
  exact m_occA (by omega) hE (m_occB (by omega) hE ⟨n + 1, l_p18 hg hs hn hN hk n 1 of (by omega) (by omega) (fun j a b => by omega)⟩)

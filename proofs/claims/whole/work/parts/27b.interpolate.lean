/-! PURE: interpolate -/
theorem nar_01 {x : Int32} (h : x = 0 ∨ x = 1) : vp_nar .boolean x = x := by
  rcases h with rfl | rfl <;> rfl
theorem l_t10 {cD : FF} {k : FF → Prop} (hk : ∀ f : FF, (∀ i, 1 ≤ i → i ≤ 200 → f i = vp_nar .boolean (cD i)) → k f) : ∀ (d i : Nat) (f : FF), d + i = 201 → 1 ≤ i → (∀ j, 1 ≤ j → j < i → f j = vp_nar .boolean (cD j)) → p_A_take_L10 cD k (d + 1) (nI i) f
  | 0, i, f, hd, hi, hf => by
    have : i = 201 := by omega
    subst this
    unfold p_A_take_L10
    exact ct (by decide) (hk f (fun j a b => hf j a (by omega)))
  | d + 1, i, f, hd, hi, hf => by
    unfold p_A_take_L10
    have ec : (nI i).toNatClampNeg = i := n_cl
    rw [ec, n_p1 i]
    refine cf (n_nlt (a := 200) (by omega)) ⟨n_in (by omega), l_t10 hk d (i + 1) _ (by omega) (by omega) (fun j a b => ?_)⟩
    by_cases z : j = i
    · rw [z, upd_s]
    · rw [upd_n z]; exact hf j a (by omega)
theorem l_t51 {row w0 : FL} {e w : Nat} {k : FL → Prop} (he : e ≤ 200) (hw : w < 16) (hk : ∀ f : FL, (∀ i, 1 ≤ i → i ≤ e → f (16 * i + w) = row i) → (∀ q, q % 16 ≠ w → f q = w0 q) → k f) : ∀ (d i : Nat) (f : FL), d + i = e + 1 → 1 ≤ i → (∀ j, 1 ≤ j → j < i → f (16 * j + w) = row j) → (∀ q, q % 16 ≠ w → f q = w0 q) → p_A_take_L51 row (nI e) (nI w) k (d + 1) (nI i) f
  | 0, i, f, hd, hi, h1, h2 => by
    have : i = e + 1 := by omega
    subst this
    unfold p_A_take_L51
    exact ct (n_lt (by omega)) (hk f (fun j a b => h1 j a (by omega)) h2)
  | d + 1, i, f, hd, hi, h1, h2 => by
    unfold p_A_take_L51
    have ec : (nI i).toNatClampNeg = i := n_cl
    have em : nI i * (16 : Int32) + nI w = nI (16 * i + w) := by rw [show (16 : Int32) = nI 16 from rfl, pk_mul, Nat.mul_comm, nI_add]
    have ed : (nI (16 * i + w)).toNatClampNeg = 16 * i + w := n_cl
    rw [em, ec, ed, n_p1 i]
    refine cf (n_nlt (by omega)) ⟨n_in (by omega), n_in (by omega), l_t51 he hw hk d (i + 1) _ (by omega) (by omega) (fun j a b => ?_) (fun q hq => ?_)⟩
    · by_cases z : j = i
      · rw [z, updL_s]
      · rw [updL_n (by omega)]; exact h1 j a (by omega)
    · rw [updL_n (by omega)]; exact h2 q hq
section IP
variable {n e : Nat} {t : CS} {cb cl cr cv cp cn cx cD mD : FF}
theorem l_t37 {lab : FF} {sys c : Nat} {a b LA LB : Int32} {k : FL → FL → Prop} (C : CTX n e t cb cl cr cv cp cn cx cD mD) (hM : MK lab a b sys LA LB)
    (hk : ∀ row words : FL, (∀ i, 1 ≤ i → i ≤ e → mD i ≠ 0 → ∀ u, u < 16 → words (16 * i + u) = VL lab a b sys c t u i) → k row words) : ∀ (d w : Nat) (row words : FL), d + w = 16 → (∀ i, 1 ≤ i → i ≤ e → mD i ≠ 0 → ∀ u, u < w → words (16 * i + u) = VL lab a b sys c t u i) → p_A_take_L37 (nI e) cb cl cr cv cp cn cD (nI c) LA LB (nI e) k (d + 1) (nI w) row words
  | 0, w, row, words, hd, ht => by
    have : w = 16 := by omega
    subst this
    unfold p_A_take_L37
    exact ct (by decide) (hk row words ht)
  | d + 1, w, row, words, hd, ht => by
    obtain ⟨hg, hn, he1, he, hE, hN⟩ := C
    have h200 := hg.1
    unfold p_A_take_L37
    rw [n_p1 w]
    refine cf (n_nle (a := 16) (by omega)) (s_work hg hn he hE hN hM (c := c) (fun row2 hr => ⟨e + 1, l_t51 (w0 := words) (by omega) (by omega) (fun f f1 f2 => ?_) e 1 words (by omega) (by omega) (fun j a b => by omega) (fun _ _ => rfl)⟩))
    refine l_t37 ⟨hg, hn, he1, he, hE, hN⟩ hM hk d (w + 1) row2 f (by omega) (fun i i1 i2 hi u hu => ?_)
    by_cases z : u = w
    · rw [z, f1 i i1 i2]; exact hr i i1 i2 hi
    · rw [f2 _ (by omega)]; exact ht i i1 i2 hi u (by omega)
end IP
/-! the reference's copies -/
theorem l_i78 {of k0 : FL} {i : Nat} {k : FL → Prop} (hi : i < 202) (hk : ∀ f : FL, (∀ q, q < 16 * (i + 1) → f q = of q) → k f) : ∀ (d w : Nat) (f : FL), d + w = 16 → (∀ q, q < 16 * i + w → f q = of q) → p_M_interpolate_L78 of (nI i) k (d + 1) (nI w) f
  | 0, w, f, hd, hf => by
    have : w = 16 := by omega
    subst this
    unfold p_M_interpolate_L78
    exact ct (by decide) (hk f (fun q hq => hf q (by omega)))
  | d + 1, w, f, hd, hf => by
    unfold p_M_interpolate_L78
    have ed : (nI (16 * i + w)).toNatClampNeg = 16 * i + w := n_cl
    rw [m16, ed, n_p1 w]
    refine cf (n_nle (a := 16) (by omega)) ⟨n_in (by omega), l_i78 (k0 := k0) hi hk d (w + 1) _ (by omega) (fun q hq => ?_)⟩
    by_cases z : q = 16 * i + w
    · rw [z, updL_s]
    · rw [updL_n z]; exact hf q (by omega)
theorem s_j74 {of kept told se node : FL} {had nv nl nh mw : FF} {i : Nat} {b isT nodes : Int32} {k : Int32 → FL → FF → Prop} (hi : i < 202) (hb : b = 0 ∨ b = 1) (hf : ∀ q, q < 16 * i → kept q = of q) (hk : ∀ f : FL, (∀ q, q < 16 * (i + 1) → f q = of q) → k (nI (i + 1)) f (upd had i b)) : p_M_interpolate_J74 k (nI i) b (nI i) isT nodes of kept had told se node nv nl nh mw := by
  unfold p_M_interpolate_J74
  have ec : (nI i).toNatClampNeg = i := n_cl
  rw [ec, n_p1 i, nar_01 hb]
  exact ⟨n_in (by omega), 17, l_i78 (k0 := kept) hi hk 16 0 kept (by omega) (fun q hq => hf q (by omega))⟩
def hadS (n : Nat) (mD : FF) (i : Nat) : Int32 := if n < i then 0 else if mD i = 0 then 0 else 1
theorem hadS_eq {n : Nat} {mD : FF} {i : Nat} (h : n < i → mD i = 0) (h2 : mD i = 0 ∨ mD i = 1) : hadS n mD i = mD i := by
  unfold hadS
  by_cases z : n < i
  · rw [if_pos z, h z]
  · rw [if_neg z]
    rcases h2 with q | q
    · rw [if_pos q, q]
    · rw [if_neg (by rw [q]; decide), q]
theorem l_i40 {n : Nat} {mD : FF} {of told se node : FL} {nv nl nh mw : FF} {isT nodes : Int32} {k : FL → FF → Prop} (hn : n ≤ 200) (hk : ∀ (kept : FL) (had : FF), (∀ q, q < 3232 → kept q = of q) → (∀ i, i < 202 → had i = hadS n mD i) → k kept had) : ∀ (d i : Nat) (kept : FL) (had : FF), d + i = 202 → (∀ q, q < 16 * i → kept q = of q) → (∀ j, j < i → had j = hadS n mD j) → p_M_interpolate_L40 (nI n) isT nodes mD of told se node nv nl nh mw k (d + 1) (nI i) kept had
  | 0, i, kept, had, hd, h1, h2 => by
    have : i = 202 := by omega
    subst this
    unfold p_M_interpolate_L40
    exact ct (by decide) (hk kept had h1 h2)
  | d + 1, i, kept, had, hd, h1, h2 => by
    have go : ∀ b : Int32, (b = 0 ∨ b = 1) → b = hadS n mD i → p_M_interpolate_J74 (p_M_interpolate_L40 (nI n) isT nodes mD of told se node nv nl nh mw k (d + 1)) (nI i) b (nI i) isT nodes of kept had told se node nv nl nh mw := fun b hb hv =>
      s_j74 (by omega) hb h1 (fun f hf => l_i40 hn hk d (i + 1) f _ (by omega) hf (fun j hj => by
        by_cases z : j = i
        · rw [z, upd_s]; exact hv
        · rw [upd_n z]; exact h2 j (by omega)))
    have ec : (nI i).toNatClampNeg = i := n_cl
    unfold p_M_interpolate_L40 p_M_interpolate_J73
    rw [ec]
    refine cf (n_nle (a := 202) (by omega)) ⟨fun q => go 0 (Or.inl rfl) ?_, fun q => ⟨n_in (by omega), fun q2 => go 0 (Or.inl rfl) ?_, fun q2 => go 1 (Or.inr rfl) ?_⟩⟩
    · have : n < i := by
        rcases Nat.lt_or_ge n i with z | z
        · exact z
        · exact absurd q (n_nlt z)
      unfold hadS; rw [if_pos this]
    · have : ¬ n < i := fun z => q (n_lt z)
      unfold hadS; rw [if_neg this, if_pos q2]
    · have : ¬ n < i := fun z => q (n_lt z)
      unfold hadS; rw [if_neg this, if_neg q2]
theorem l_i123 {of : FL} {k : FL → Prop} {e : Nat} (he : e ≤ 200) (hk : ∀ f : FL, (∀ u, u < 16 → f u = of (16 * e + u)) → k f) : ∀ (d w : Nat) (f : FL), d + w = 16 → (∀ u, u < w → f u = of (16 * e + u)) → p_M_interpolate_L123 (nI e) of k (d + 1) (nI w) f
  | 0, w, f, hd, hf => by
    have : w = 16 := by omega
    subst this
    unfold p_M_interpolate_L123
    exact ct (by decide) (hk f hf)
  | d + 1, w, f, hd, hf => by
    unfold p_M_interpolate_L123
    have e1 : (nI w).toNatClampNeg = w := n_cl
    have e2 : (nI (16 * e + w)).toNatClampNeg = 16 * e + w := n_cl
    rw [m16, e1, e2, n_p1]
    refine cf (n_nle (a := 16) (by omega)) ⟨n_in (by omega), n_in (by omega), fun x hx => l_i123 he hk d (w + 1) _ (by omega) (fun u hu => ?_)⟩
    by_cases z : u = w
    · rw [z, updL_s]; exact hx
    · rw [updL_n z]; exact hf u (by omega)
set_option maxHeartbeats 1000000 in
theorem s_interpolate {csz cgv cem mcl mgv mend x1 x2 f1 f2 f3 root size isT nodes : Int32} {cb cl cr cv cp cn cx cD mb ml mr mv mp mn mx mD of lab known var low high num nod sides wai had nv nl nh mw : FF} {row words mo kept told se node : FL}
    {K : Int32 → Int32 → Int32 → Int32 → FL → Int32 → FL → FF → Int32 → FF → FF → FF → FF → FF → FF → FF → Int32 → Int32 → Int32 → FL → FL → FF → FL → FL → FL → FF → FF → FF → FF → Prop}
    (hr : RCL csz cgv cem cb cl cr cv cp cn cx cD mcl mgv mend mb ml mr mv mp mn mx mD) (hR : RL of lab) (hA : RA root words known size var low high num nod isT nodes kept had told nv nl nh)
    (hk : ∀ r f1 f2 f3 row root words known size var low high num nod sides wai isT nodes mo kept had told se node nv nl nh mw, RA root words known size var low high num nod isT nodes kept had told nv nl nh → K r f1 f2 f3 row root words known size var low high num nod sides wai r isT nodes mo kept had told se node nv nl nh mw) :
    p_B_interpolate csz cem cb cl cr cv cp cn cD of f1 f2 f3 row root words known size var low high num nod sides wai x1 x2 (fun r f1 f2 f3 row root words known size var low high num nod sides wai => p_M_interpolate mcl mend isT nodes mp mn mb ml mr mv mD lab mo kept had told se node nv nl nh mw x1 x2 (fun r' isT nodes mo kept had told se node nv nl nh mw => K r f1 f2 f3 row root words known size var low high num nod sides wai r' isT nodes mo kept had told se node nv nl nh mw)) := by
  obtain ⟨n, e, hn, he, rfl, rfl, rfl, rfl, hC⟩ := hr.ctx
  unfold p_B_interpolate p_M_interpolate
  refine s_isCut (fun h1 => cf (by decide) ?_) (fun h1 => ct rfl (s_in (fun q => absurd q h1) (fun _ => ct rfl (hk _ _ _ _ _ _ _ _ _ _ _ _ _ _ _ _ _ _ _ _ _ _ _ _ _ _ _ _ hA))))
  refine s_isSys (fun h2 => df (by decide) ?_) (fun h2 => dt rfl (s_in (fun _ => cf (by decide) (s_in (fun q => absurd q h2) (fun _ => dt rfl (hk _ _ _ _ _ _ _ _ _ _ _ _ _ _ _ _ _ _ _ _ _ _ _ _ _ _ _ _ hA)))) (fun q => absurd h1 q)))
  by_cases h0 : e = 0
  · subst h0
    exact dt rfl (s_in (fun _ => cf (by decide) (s_in (fun _ => df (by decide) (dt rfl (hk _ _ _ _ _ _ _ _ _ _ _ _ _ _ _ _ _ _ _ _ _ _ _ _ _ _ _ _ hA))) (fun q => absurd h2 q))) (fun q => absurd h1 q))
  · have C := hC h0
    obtain ⟨ee, e0, em⟩ := endOf_ne h0 he
    obtain ⟨c, c1, c2, rfl⟩ := inR_nat (a := 1) (b := 7) h1 (by decide) (by decide)
    obtain ⟨s, -, s2, rfl⟩ := inR_nat (a := 0) (b := 3) h2 (by decide) (by decide)
    obtain ⟨N1, N2, N3, N4, N5, N6⟩ := C.2.2.2.2.2
    have e16 : nI e * (16 : Int32) = nI (16 * e) := by rw [show (16 : Int32) = nI 16 from rfl, pk_mul, Nat.mul_comm]
    rw [ee]
    refine df e0 (s_choose hn c2 s2 C.2.2.2.2.1 hR (fun LA LB hM => ?_))
    unfold p_A_take
    refine ⟨201, l_t10 (fun known' hkn => ⟨17, l_t37 C hM (c := c) (fun row' words' hw => ?_) 16 0 row words (by omega) (fun i _ _ _ u hu => absurd hu (Nat.not_lt_zero u))⟩) 200 1 known (by omega) (by omega) (fun j a b => by omega)⟩
    rw [e16]
    refine s_build he (fun g V L H F var' low' high' num0 sides' S hO => ?_)
    obtain ⟨N, n1, n2, hc, hm⟩ := dgraph hO
    refine hc _ _ _ (fun num' nod' wai' hnn => ?_)
    refine s_in (fun _ => cf (by decide) (s_in (fun _ => df (by decide) (df em ?_)) (fun q => absurd h2 q))) (fun q => absurd h1 q)
    refine s_part2 C s2 (fun of' ho => ⟨203, l_i40 hn (fun kept' had' hke hha => ⟨17, l_i123 he (fun told' hto => hm told' _ _ _ _ _ _ _ ?_ (fun se' node' nv' nl' nh' mw' hnv => hk _ _ _ _ _ _ _ _ _ _ _ _ _ _ _ _ _ _ _ _ _ _ _ _ _ _ _ _ (Or.inr ?_))) 16 0 told (by omega) (fun u hu => absurd hu (Nat.not_lt_zero u))⟩) 202 0 kept had (by omega) (fun q hq => by omega) (fun j hj => absurd hj (Nat.not_lt_zero j))⟩)
    · intro w hw' b hb
      rw [hto w hw', ho e C.2.2.1 C.2.2.2.1 (by rw [N5 h0]; decide) w hw']
      unfold tbl
      rw [show (64 * w + b) / 64 = w by omega, show (64 * w + b) % 64 = b by omega, hw e C.2.2.1 (Nat.le_refl _) (by rw [N5 h0]; decide) w hw']
      rfl
    · have hkm : ∀ i, 1 ≤ i → i ≤ 200 → known' i = mD i := fun i i1 i2 => by
        rw [hkn i i1 i2, N2 h0 i i1 i2, nar_01 (N3 i (by omega))]
      have hle : ∀ i, 1 ≤ i → i ≤ 200 → mD i ≠ 0 → i ≤ e := fun i i1 i2 hi => by
        rcases Nat.lt_or_ge e i with z | z
        · exact absurd (N4 i z (by omega)) hi
        · exact z
      have hen := C.2.2.2.1
      refine ⟨e, g, N, V, L, H, C.2.2.1, he, by have := hO.2.2.2.1; rw [cap_0] at this; exact this, rfl, rfl, rfl, rfl, fun i i1 i2 => ?_, ?_, ?_, fun i i1 i2 hi w hw' => ?_, fun w hw' => ?_, n1, n2, hO.2.1, hnn, hnv⟩
      · rw [hkm i i1 i2, hha i (by omega), hadS_eq (fun z => N4 i (by omega) (by omega)) (N3 i (by omega))]
      · rw [hha 201 (by omega), hadS_eq (fun z => N4 201 (by omega) (by omega)) (N3 201 (by omega))]; exact N4 201 (by omega) (by omega)
      · rw [hkm e C.2.2.1 he, N5 h0]; decide
      · rw [hkm i i1 i2] at hi
        have := hle i i1 i2 hi
        rw [hw i i1 this hi w hw', hke _ (by omega), ho i i1 (by omega) hi w hw']
        rfl
      · rw [hto w hw', ho e C.2.2.1 C.2.2.2.1 (by rw [N5 h0]; decide) w hw', hw e C.2.2.1 (Nat.le_refl _) (by rw [N5 h0]; decide) w hw']
        rfl

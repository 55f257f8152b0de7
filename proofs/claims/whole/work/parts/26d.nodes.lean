/-! PURE: the reference's nodes -/
def bI (a : Bool) : Int32 := if a = true then 1 else 0
theorem bI_0 {a : Bool} : bI a = 0 ↔ a = false := by cases a <;> decide
def TN (node : FL) (j : Nat) (f : Nat → Bool) : Prop := ∀ w, w < 16 → ∀ b, b < 64 → bL (node (16 * j + w)) b = f (64 * w + b)
def TS (se : FL) (f : Nat → Bool) : Prop := ∀ w, w < 16 → ∀ b, b < 64 → bL (se w) b = f (64 * w + b)
theorem bL_big {y : Int64} {i : Nat} (h : 64 ≤ i) : bL y i = false := by unfold bL; exact BitVec.getLsbD_of_ge _ _ h
theorem ix0 : ∀ w, w < 16 → ∀ t, t < 4 → nI w &&& (nI (2 ^ t) ^^^ (-1)) = nI (put t false w) := by decide +kernel
theorem ix1 : ∀ w, w < 16 → ∀ t, t < 4 → nI w ||| nI (2 ^ t) = nI (put t true w) := by decide +kernel
theorem bv_7 : ∀ t, t < 4 → (1 : Int32) <<< ((nI (t + 6 + 1) - 7) &&& 31) = nI (2 ^ t) := by decide +kernel
theorem s_side {node : FL} {nv : FF} {j w u : Nat} {s : Bool} {f : Nat → Bool} {k : Int64 → Prop} (hj : j < 300) (hw : w < 16) (hu : u < 10) (hv : nv j = nI (u + 1)) (hf : TN node j f) (hk : ∀ y, (∀ b, b < 64 → bL y b = f (put u s (64 * w + b))) → k y) : p_M_side node nv (nI j) (nI w) (bI s) k := by
  have ec : (nI j).toNatClampNeg = j := n_cl
  have hwd := hf w hw
  unfold p_M_side
  rw [ec, hv, m16]
  refine ⟨n_in (by omega), fun q => ?_, fun q => ?_⟩
  · have hu6 : u < 6 := by
      rcases Nat.lt_or_ge u 6 with z | z
      · exact z
      · exact absurd q (n_nle (b := 6) (by omega))
    have hp : 2 ^ u < 64 := Nat.lt_of_le_of_lt (Nat.pow_le_pow_right (n := 2) (by decide) (show u ≤ 5 by omega)) (by decide)
    have et : tv (u + 1) 0 = pt6 u := by unfold tv; rw [if_pos (by omega)]; rfl
    have e2 : (nI (16 * j + w)).toNatClampNeg = 16 * j + w := n_cl
    refine s_word (w := 0) (by omega) (by omega) (fun v7 e7 => ⟨n_in (by omega), fun v8 e8 => ?_⟩)
    rw [et]
    rw [bv_n hu] at e7
    rw [e2] at e8
    subst e7
    unfold p_M_side_J102
    generalize node (16 * j + w) = W at *
    subst e8
    cases s
    · refine ct rfl (ct rfl (hk _ (fun b hb => ?_)))
      obtain ⟨p1, p2⟩ := put_a b hb u hu6
      have hsub : b - 2 ^ u < 64 := Nat.lt_of_le_of_lt (Nat.sub_le _ _) hb
      rw [(put_lo w hw b hb u hu6 false).1, bL_or, bL_shl hp hb, bL_and, bL_and, bL_not _ hb, pt6_b u hu6 b hb]
      rw [← hwd _ (put_lo w hw b hb u hu6 false).2]
      cases hb2 : b.testBit u
      · obtain ⟨e1, e2⟩ := p1 hb2
        rw [e1]
        by_cases z : 2 ^ u ≤ b
        · rw [bL_not _ hsub, pt6_b u hu6 _ hsub, e2 z]; simp
        · simp [z]
      · obtain ⟨e1, e2, e3⟩ := p2 hb2
        rw [e1, bL_not _ hsub, pt6_b u hu6 _ hsub, e3]; simp [e2]
    · refine cf (by decide) (cf (by decide) (hk _ (fun b hb => ?_)))
      obtain ⟨p1, p2⟩ := put_b b hb u hu6
      rw [(put_lo w hw b hb u hu6 true).1, bL_or, bL_ushr hp, bL_and, bL_and, pt6_b u hu6 b hb]
      rw [← hwd _ (put_lo w hw b hb u hu6 true).2]
      cases hb2 : b.testBit u
      · obtain ⟨e1, e2, e3⟩ := p2 hb2
        rw [e1, pt6_b u hu6 _ e2, e3]; simp
      · obtain ⟨e1, e2⟩ := p1 hb2
        rw [e1]
        by_cases z : 2 ^ u + b < 64
        · rw [pt6_b u hu6 _ z, e2 z]; simp
        · rw [bL_big (y := v8) (show 64 ≤ 2 ^ u + b by omega)]; simp
  · have hu6 : 6 ≤ u := by
      rcases Nat.lt_or_ge u 6 with z | z
      · exact absurd (n_le (a := u + 1) (b := 6) (by omega)) q
      · exact z
    obtain ⟨t, rfl⟩ : ∃ t, u = t + 6 := ⟨u - 6, by omega⟩
    have ht : t < 4 := by omega
    intro v5 e5
    rw [bv_7 t ht] at e5
    subst e5
    rw [ix0 w hw t ht, ix1 w hw t ht, m16, m16]
    have l0 := (put_hi w hw 0 (by decide) t ht false).2
    have l1 := (put_hi w hw 0 (by decide) t ht true).2
    have c0 : (nI (16 * j + put t false w)).toNatClampNeg = 16 * j + put t false w := n_cl
    have c1 : (nI (16 * j + put t true w)).toNatClampNeg = 16 * j + put t true w := n_cl
    rw [c0, c1]
    cases s
    · refine ct rfl ⟨n_in (by omega), hk _ (fun b hb => ?_)⟩
      rw [(put_hi w hw b hb t ht false).1]; exact hf _ l0 b hb
    · refine cf (by decide) ⟨n_in (by omega), hk _ (fun b hb => ?_)⟩
      rw [(put_hi w hw b hb t ht true).1]; exact hf _ l1 b hb
/-! none or all -/
theorem l_n6 {nodes : Int32} {se node : FL} {nv : FF} {k : Int32 → Int32 → Prop} (hk : ∀ a b : Bool, (a = true ↔ ∀ i, i < 16 → se i = 0) → (b = true ↔ ∀ i, i < 16 → se i = -1) → k (bI a) (bI b)) : ∀ (d w : Nat) (a b : Bool), d + w = 16 → (a = true ↔ ∀ i, i < w → se i = 0) → (b = true ↔ ∀ i, i < w → se i = -1) → p_M_nodeOf_L6 nodes se node nv k (d + 1) (bI a) (bI b) (nI w)
  | 0, w, a, b, hd, ha, hb => by
    have : w = 16 := by omega
    subst this
    unfold p_M_nodeOf_L6
    exact ct (by decide) (hk a b ha hb)
  | d + 1, w, a, b, hd, ha, hb => by
    have ec : (nI w).toNatClampNeg = w := n_cl
    have go : ∀ a' : Bool, (a' = true ↔ ∀ i, i < w + 1 → se i = 0) → p_M_nodeOf_J32 se (p_M_nodeOf_L6 nodes se node nv k (d + 1)) (bI b) (nI w) (bI a') nodes node nv := fun a' ha' => by
      unfold p_M_nodeOf_J32
      rw [ec, n_p1]
      have nx : ∀ b' : Bool, (b' = true ↔ ∀ i, i < w + 1 → se i = -1) → p_M_nodeOf_L6 nodes se node nv k (d + 1) (bI a') (bI b') (nI (w + 1)) := fun b' hb' => l_n6 hk d (w + 1) a' b' (by omega) ha' hb'
      refine ⟨fun q => nx false ⟨fun z => absurd z (by decide), fun z => ?_⟩, fun q => ⟨n_in (by omega), fun q2 => nx false ⟨fun z => absurd z (by decide), fun z => ?_⟩, fun q2 => nx true ⟨fun _ i hi => ?_, fun _ => rfl⟩⟩⟩
      · have h1 := bI_0.mp q
        have h2 := hb.mpr (fun i hi => z i (by omega))
        rw [h1] at h2; exact h2
      · exact absurd (cmp_eq.mpr (z w (by omega))) q2
      · by_cases e : i = w
        · rw [e]; exact cmp_eq.mp q2
        · have : b = true := by
            cases b
            · exact absurd (bI_0.mpr rfl) q
            · rfl
          exact hb.mp this i (by omega)
    unfold p_M_nodeOf_L6 p_M_nodeOf_J31
    rw [ec]
    refine cf (n_nle (a := 16) (by omega)) ⟨fun q => go false ⟨fun z => absurd z (by decide), fun z => ?_⟩, fun q => ⟨n_in (by omega), fun q2 => go false ⟨fun z => absurd z (by decide), fun z => ?_⟩, fun q2 => go true ⟨fun _ i hi => ?_, fun _ => rfl⟩⟩⟩
    · have h1 := bI_0.mp q
      have h2 := ha.mpr (fun i hi => z i (by omega))
      rw [h1] at h2; exact h2
    · exact absurd (cmp_eq.mpr (z w (by omega))) q2
    · by_cases e : i = w
      · rw [e]; exact cmp_eq.mp q2
      · have : a = true := by
          cases a
          · exact absurd (bI_0.mpr rfl) q
          · rfl
        exact ha.mp this i (by omega)
/-! one that is there -/
theorem l_n98 {se node : FL} {j : Nat} {k : Int32 → Prop} (hj : j < 300) (hk : ∀ a : Bool, (a = true ↔ ∀ i, i < 16 → node (16 * j + i) = se i) → k (bI a)) : ∀ (d w : Nat) (a : Bool), d + w = 16 → (a = true ↔ ∀ i, i < w → node (16 * j + i) = se i) → p_M_nodeOf_L98 se node (nI j) k (d + 1) (bI a) (nI w)
  | 0, w, a, hd, ha => by
    have : w = 16 := by omega
    subst this
    unfold p_M_nodeOf_L98
    exact ct (by decide) (hk a ha)
  | d + 1, w, a, hd, ha => by
    have ec : (nI w).toNatClampNeg = w := n_cl
    have e2 : (nI (16 * j + w)).toNatClampNeg = 16 * j + w := n_cl
    have nx : ∀ a' : Bool, (a' = true ↔ ∀ i, i < w + 1 → node (16 * j + i) = se i) → p_M_nodeOf_L98 se node (nI j) k (d + 1) (bI a') (nI (w + 1)) := fun a' ha' => l_n98 hj hk d (w + 1) a' (by omega) ha'
    unfold p_M_nodeOf_L98
    rw [m16, ec, e2, n_p1]
    refine cf (n_nle (a := 16) (by omega)) ⟨fun q => nx false ⟨fun z => absurd z (by decide), fun z => ?_⟩, fun q => ⟨n_in (by omega), n_in (by omega), fun q2 => nx false ⟨fun z => absurd z (by decide), fun z => ?_⟩, fun q2 => nx true ⟨fun _ i hi => ?_, fun _ => rfl⟩⟩⟩
    · have h1 := bI_0.mp q
      have h2 := ha.mpr (fun i hi => z i (by omega))
      rw [h1] at h2; exact h2
    · exact absurd (cmp_eq.mpr (z w (by omega))) q2
    · by_cases e : i = w
      · rw [e]; exact cmp_eq.mp q2
      · have : a = true := by
          cases a
          · exact absurd (bI_0.mpr rfl) q
          · rfl
        exact ha.mp this i (by omega)
theorem l_n84 {se node : FL} {nv : FF} {m : Nat} {k : Int32 → Int32 → FL → FF → Prop} {k159 : Prop} (hm : m < 300) (hf : ∀ j, j < m → (∀ i, i < 16 → node (16 * j + i) = se i) → k (nI j) (nI m) node nv) (hn : (∀ j, j < m → ¬ ∀ i, i < 16 → node (16 * j + i) = se i) → k159) :
    ∀ (d j : Nat), d + j = m → (∀ j', j' < j → ¬ ∀ i, i < 16 → node (16 * j' + i) = se i) → p_M_nodeOf_L84 (nI m) se node nv k k159 (d + 1) (nI j)
  | 0, j, hd, h => by
    have : j = m := by omega
    subst this
    unfold p_M_nodeOf_L84
    exact ct (n_le (Nat.le_refl _)) (hn h)
  | d + 1, j, hd, h => by
    unfold p_M_nodeOf_L84
    refine cf (n_nle (by omega)) ⟨17, l_n98 (by omega) (fun a ha => ⟨fun q => ?_, fun q => ?_⟩) 16 0 true (by omega) ⟨fun _ i hi => absurd hi (Nat.not_lt_zero i), fun _ => rfl⟩⟩
    · rw [n_p1]
      refine l_n84 hm hf hn d (j + 1) (by omega) (fun j' hj' => ?_)
      by_cases e : j' = j
      · rw [e]
        intro z
        have := ha.mpr z
        rw [bI_0.mp q] at this
        exact absurd this (by decide)
      · exact h j' (by omega)
    · have : a = true := by
        cases a
        · exact absurd (bI_0.mpr rfl) q
        · rfl
      exact hf j (by omega) (ha.mp this)
theorem l_n161 {se : FL} {m : Nat} {k : FL → Prop} {n0 : FL} (hm : m < 300) (hk : ∀ node : FL, (∀ i, i < 16 → node (16 * m + i) = se i) → (∀ i, i < 16 * m → node i = n0 i) → k node) : ∀ (d w : Nat) (node : FL), d + w = 16 → (∀ i, i < w → node (16 * m + i) = se i) → (∀ i, i < 16 * m → node i = n0 i) → p_M_nodeOf_L161 (nI m) se k (d + 1) (nI w) node
  | 0, w, node, hd, h1, h2 => by
    have : w = 16 := by omega
    subst this
    unfold p_M_nodeOf_L161
    exact ct (by decide) (hk node h1 h2)
  | d + 1, w, node, hd, h1, h2 => by
    have ec : (nI w).toNatClampNeg = w := n_cl
    have e2 : (nI (16 * m + w)).toNatClampNeg = 16 * m + w := n_cl
    unfold p_M_nodeOf_L161
    rw [m16, ec, e2, n_p1]
    refine cf (n_nle (a := 16) (by omega)) ⟨n_in (by omega), n_in (by omega), l_n161 hm hk d (w + 1) _ (by omega) (fun i hi => ?_) (fun i hi => by rw [updL_n (by omega)]; exact h2 i hi)⟩
    by_cases e : i = w
    · rw [e, updL_s]
    · rw [updL_n (by omega)]; exact h1 i (by omega)
/-! the least variable -/
theorem l_v17 {node : FL} {nv : FF} {j u : Nat} {f : Nat → Bool} {k : Int32 → FF → Prop} {k49 : Prop} (hj : j < 300) (hu : u < 10) (hv : nv j = nI (u + 1)) (hf : TN node j f)
    (h49 : (∀ x, x < 1024 → f (put u false x) = f (put u true x)) → k49) (hk : (¬ ∀ x, x < 1024 → f (put u false x) = f (put u true x)) → k (nI (u + 1)) nv) : ∀ (d w : Nat), d + w = 16 → (∀ x, x < 64 * w → f (put u false x) = f (put u true x)) → p_M_leastVariable_L17 node nv (nI j) (nI (u + 1)) k k49 (d + 1) (nI w)
  | 0, w, hd, h => by
    have : w = 16 := by omega
    subst this
    unfold p_M_leastVariable_L17
    exact ct (by decide) (h49 h)
  | d + 1, w, hd, h => by
    unfold p_M_leastVariable_L17
    refine cf (n_nle (a := 16) (by omega)) (s_side (s := false) hj (by omega) hu hv hf (fun y hy => s_side (s := true) hj (by omega) hu hv hf (fun z hz => ⟨fun q => ?_, fun q => hk (fun hh => ?_)⟩)))
    · have e := cmp_eq.mp q
      rw [n_p1]
      refine l_v17 hj hu hv hf h49 hk d (w + 1) (by omega) (fun x hx => ?_)
      rcases Nat.lt_or_ge x (64 * w) with r | r
      · exact h x r
      · obtain ⟨b, rfl⟩ : ∃ b, x = 64 * w + b := ⟨x - 64 * w, by omega⟩
        rw [← hy b (by omega), ← hz b (by omega), e]
    · exact q (cmp_eq.mpr (bL_ext (fun b hb => by rw [hy b hb, hz b hb]; exact hh _ (by omega))))
theorem l_v2 {node : FL} {j u : Nat} {f : Nat → Bool} {k : Int32 → FF → Prop} {nv0 : FF} (hj : j < 300) (hu : u < 10) (hf : TN node j f) (h1 : ∀ t, t < u → ∀ x, x < 1024 → f (put t false x) = f (put t true x)) (h2 : ¬ ∀ x, x < 1024 → f (put u false x) = f (put u true x))
    (hk : ∀ nv : FF, nv j = nI (u + 1) → (∀ i, i ≠ j → nv i = nv0 i) → k (nI (u + 1)) nv) : ∀ (d t : Nat) (nv : FF), d + t = u → (∀ i, i ≠ j → nv i = nv0 i) → p_M_leastVariable_L2 node (nI j) k (d + 1) (nI (t + 1)) nv
  | 0, t, nv, hd, h => by
    have : t = u := by omega
    subst this
    have ec : (nI j).toNatClampNeg = j := n_cl
    unfold p_M_leastVariable_L2
    rw [ec]
    exact cf (n_nlt (a := 10) (by omega)) ⟨n_in (by omega), 17, l_v17 hj hu upd_s hf (fun q => absurd q h2) (fun _ => hk _ upd_s (fun i hi => by rw [upd_n hi]; exact h i hi)) 16 0 (by omega) (fun x hx => absurd hx (by omega))⟩
  | d + 1, t, nv, hd, h => by
    have ec : (nI j).toNatClampNeg = j := n_cl
    unfold p_M_leastVariable_L2
    rw [ec]
    refine cf (n_nlt (a := 10) (by omega)) ⟨n_in (by omega), 17, l_v17 hj (by omega) upd_s hf (fun _ => ?_) (fun q => absurd (h1 t (by omega)) q) 16 0 (by omega) (fun x hx => absurd hx (by omega))⟩
    rw [n_p1]
    exact l_v2 hj hu hf h1 h2 hk d (t + 1) _ (by omega) (fun i hi => by rw [upd_n hi]; exact h i hi)
/-! all of it -/
theorem TN_of {node se : FL} {j : Nat} {f : Nat → Bool} (h : TS se f) (e : ∀ i, i < 16 → node (16 * j + i) = se i) : TN node j f := fun w hw b hb => by rw [e w hw]; exact h w hw b hb
theorem TN_eq {node se : FL} {j : Nat} {f f' : Nat → Bool} (h : TS se f) (h2 : TN node j f') : (∀ i, i < 16 → node (16 * j + i) = se i) ↔ ∀ x, x < 1024 → f' x = f x := by
  constructor
  · intro e x hx
    have a := h2 (x / 64) (by omega) (x % 64) (by omega)
    have b := h (x / 64) (by omega) (x % 64) (by omega)
    rw [e _ (by omega), b] at a
    rw [show x = 64 * (x / 64) + x % 64 by omega]
    exact a.symm
  · intro e i hi
    exact bL_ext (fun b hb => by rw [h2 i hi b hb, h i hi b hb, e _ (by omega)])
theorem TS_c {se : FL} {f : Nat → Bool} {y : Int64} {v : Bool} (h : TS se f) (hy : ∀ b, b < 64 → bL y b = v) : (∀ i, i < 16 → se i = y) ↔ ∀ x, x < 1024 → f x = v := by
  constructor
  · intro e x hx
    have b := h (x / 64) (by omega) (x % 64) (by omega)
    rw [e _ (by omega), hy _ (by omega)] at b
    rw [show x = 64 * (x / 64) + x % 64 by omega]
    exact b.symm
  · intro e i hi
    exact bL_ext (fun b hb => by rw [h i hi b hb, e _ (by omega), hy b hb])
theorem s_nodeOf {g m c : Nat} {V L H N : NN} {F : NB} {se node : FL} {nv : FF} {k : Int32 → Int32 → FL → FF → Prop} (hI : IV g V L H F) (hm : m < 299) (hc : c < g + 2) (hse : TS se (F c)) (hN : ∀ j, j < m → N j < g ∧ TN node j (F (N j + 2)))
    (h0 : c = 0 → k (-2) (nI m) node nv) (h1 : c = 1 → k (-3) (nI m) node nv) (h2 : ∀ j, j < m → N j + 2 = c → k (nI j) (nI m) node nv)
    (h3 : ∀ (i : Nat) (node' : FL) (nv' : FF), c = i + 2 → (∀ j, j < m → N j ≠ i) → TN node' m (F (i + 2)) → (∀ j, j < m → TN node' j (F (N j + 2))) → nv' m = nI (V i) → (∀ j, j ≠ m → nv' j = nv j) → k (nI m) (nI (m + 1)) node' nv') : p_M_nodeOf (nI m) se node nv k := by
  have z0 : (∀ i, i < 16 → se i = 0) ↔ c = 0 := by
    rw [TS_c hse (v := false) (fun b _ => bL_0 b)]
    constructor
    · intro h; exact hI.2.2.2 c 0 hc (by omega) (fun x hx => by rw [h x hx, hI.1])
    · intro h x _; rw [h, hI.1]
  have z1 : (∀ i, i < 16 → se i = -1) ↔ c = 1 := by
    rw [TS_c hse (v := true) (fun b hb => bL_m1 hb)]
    constructor
    · intro h; exact hI.2.2.2 c 1 hc (by omega) (fun x hx => by rw [h x hx, hI.2.1])
    · intro h x _; rw [h, hI.2.1]
  unfold p_M_nodeOf
  refine ⟨17, l_n6 (fun a b ha hb => ?_) 16 0 true true (by omega) ⟨fun _ i hi => absurd hi (Nat.not_lt_zero i), fun _ => rfl⟩ ⟨fun _ i hi => absurd hi (Nat.not_lt_zero i), fun _ => rfl⟩⟩
  rw [z0] at ha
  rw [z1] at hb
  refine ⟨fun q => ⟨fun q2 => absurd q2 q, fun _ => h0 (ha.mp ?_)⟩, fun q => ⟨fun q2 => ?_, fun q2 => ⟨fun _ => h1 (hb.mp ?_), fun q3 => absurd q q3⟩⟩⟩
  · cases a
    · exact absurd (bI_0.mpr rfl) q
    · rfl
  · have c0 : c ≠ 0 := fun z => by have := ha.mpr z; rw [bI_0.mp q] at this; exact absurd this (by decide)
    have c1 : c ≠ 1 := fun z => by have := hb.mpr z; rw [bI_0.mp q2] at this; exact absurd this (by decide)
    obtain ⟨i, rfl⟩ : ∃ i, c = i + 2 := ⟨c - 2, by omega⟩
    have hi : i < g := by omega
    refine ⟨m + 1, l_n84 (by omega) (fun j hj e => h2 j hj ?_) (fun hno => ?_) m 0 (by omega) (fun j hj => absurd hj (Nat.not_lt_zero j))⟩
    · exact hI.2.2.2 _ _ (by have := (hN j hj).1; omega) (by omega) ((TN_eq hse (hN j hj).2).mp e)
    · have hno2 : ∀ j, j < m → N j ≠ i := fun j hj e => hno j hj ((TN_eq hse (hN j hj).2).mpr (fun x _ => by rw [e]))
      rw [n_p1, nI_pred]
      refine ⟨17, l_n161 (n0 := node) (by omega) (fun node' e1 e2 => ?_) 16 0 node (by omega) (fun j hj => absurd hj (Nat.not_lt_zero j)) (fun _ _ => rfl)⟩
      have t1 : TN node' m (F (i + 2)) := TN_of hse e1
      obtain ⟨v1, v2, lo, hi', ne, ll, lh, ff⟩ := hI.2.2.1 i hi
      unfold p_M_leastVariable
      refine ⟨(V i - 1) + 1, l_v2 (nv0 := nv) (u := V i - 1) (by omega) (by omega) t1 (fun t ht x hx => ?_) (fun hall => ?_) (fun nv' a1 a2 => h3 i node' nv' rfl hno2 t1 (fun j hj w hw b hb => ?_) ?_ a2) (V i - 1) 0 nv (by omega) (fun _ _ => rfl)⟩
      · rw [ind_put hI hc (by rw [lev_2]; omega), ind_put hI hc (by rw [lev_2]; omega)]
      · refine ne (hI.2.2.2 _ _ (by omega) (by omega) (fun x hx => ?_))
        rw [← side0 hI hi x, ← side1 hI hi x]; exact hall x hx
      · rw [e2 _ (by omega)]; exact (hN j hj).2 w hw b hb
      · rw [a1, show V i - 1 + 1 = V i by omega]
  · cases b
    · exact absurd (bI_0.mpr rfl) q2
    · rfl
theorem l_d93 {node : FL} {nv : FF} {j u : Nat} {s : Bool} {f : Nat → Bool} {k : FL → Prop} (hj : j < 300) (hu : u < 10) (hv : nv j = nI (u + 1)) (hf : TN node j f) (hk : ∀ se : FL, TS se (fun x => f (put u s x)) → k se) : ∀ (d w : Nat) (se : FL), d + w = 16 → (∀ i, i < w → ∀ b, b < 64 → bL (se i) b = f (put u s (64 * i + b))) → p_M_draw_L93 node nv (nI j) (bI s) k (d + 1) (nI w) se
  | 0, w, se, hd, h => by
    have : w = 16 := by omega
    subst this
    unfold p_M_draw_L93
    exact ct (by decide) (hk se h)
  | d + 1, w, se, hd, h => by
    have ec : (nI w).toNatClampNeg = w := n_cl
    unfold p_M_draw_L93
    rw [ec, n_p1]
    refine cf (n_nle (a := 16) (by omega)) (s_side hj (by omega) hu hv hf (fun y hy => ⟨n_in (by omega), l_d93 hj hu hv hf hk d (w + 1) _ (by omega) (fun i hi b hb => ?_)⟩))
    by_cases e : i = w
    · rw [e, updL_s]; exact hy b hb
    · rw [updL_n e]; exact h i (by omega) b hb

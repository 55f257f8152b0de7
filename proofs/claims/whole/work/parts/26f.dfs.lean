/-! PURE: numbering, both at once -/
theorem nI_nm1 {j : Nat} (h : j < 2 ^ 31) : nI j ≠ -1 := fun q => by
  have : (nI j).toInt = (-1 : Int32).toInt := by rw [q]
  rw [nI_toInt h, i_m1] at this
  omega
theorem NR.ok {N : NN} {m c : Nat} {r : Int32} (h : NR N m c r) : OKE N m c := by
  rcases h with h | ⟨j, h1, h2, -⟩
  · exact Or.inl h.1
  · exact Or.inr ⟨j, h1, h2⟩
section DF
variable {g : Nat} {V L H : NN} {F : NB} {var low high : FF}
theorem GD.skip {m p : Nat} {N E : NN} (h : GD g V L H m (p + 1) N E) (ho : OKE N m (ch L H N (E p))) : GD g V L H m p N E := by
  obtain ⟨h1, h2, h3, h4, h5⟩ := h
  refine ⟨h1, h2, h3, fun q hq => h4 q (by omega), fun e he => ?_⟩
  rcases h5 e he with ⟨q, hq, eq⟩ | z
  · by_cases y : q = p
    · rw [y] at eq; rw [← eq]; exact Or.inr ho
    · exact Or.inl ⟨q, by omega, eq⟩
  · exact Or.inr z
theorem GD.new (hI : IV g V L H F) {m p i : Nat} {N E : NN} (h : GD g V L H m (p + 1) N E) (hc : ch L H N (E p) = i + 2) (hi : i < g) (hn : ∀ j, j < m → N j ≠ i) : GD g V L H (m + 1) (p + 2) (uN N m i) (uN (uN E p (2 * m + 1)) (p + 1) (2 * m)) := by
  obtain ⟨h1, h2, h3, h4, h5⟩ := h
  have hN : ∀ j, j < m + 1 → uN N m i j < g := fun j hj => by
    by_cases z : j = m
    · rw [z, uN_s]; exact hi
    · rw [uN_n z]; exact h2 j (by omega)
  have hinj : ∀ a b, a < m + 1 → b < m + 1 → uN N m i a = uN N m i b → a = b := fun a b ha hb hab => by
    by_cases z : a = m <;> by_cases y : b = m
    · omega
    · rw [z, uN_s, uN_n y] at hab; exact absurd hab.symm (hn b (by omega))
    · rw [y, uN_s, uN_n z] at hab; exact absurd hab (hn a (by omega))
    · rw [uN_n z, uN_n y] at hab; exact h3 a b (by omega) (by omega) hab
  obtain ⟨e1, e2⟩ := h4 p (by omega)
  obtain ⟨v1, v2, lo, hi', ne, ll, lh, ff⟩ := hI.2.2.1 i hi
  rw [hc, lev_2] at e2
  refine ⟨PH g (m + 1) _ hN hinj, hN, hinj, fun q hq => ?_, fun e he => ?_⟩
  · by_cases z : q = p + 1
    · rw [z, uN_s, ch_lo]; exact ⟨by omega, by omega⟩
    · rw [uN_n z]
      by_cases y : q = p
      · rw [y, uN_s, ch_hi]; exact ⟨by omega, by omega⟩
      · rw [uN_n y]
        obtain ⟨a1, a2⟩ := h4 q (by omega)
        rw [ch_up a1]; exact ⟨by omega, a2⟩
  · by_cases z : e = 2 * m
    · exact Or.inl ⟨p + 1, by omega, by rw [uN_s, z]⟩
    · by_cases y : e = 2 * m + 1
      · exact Or.inl ⟨p, by omega, by rw [uN_n (by omega), uN_s, y]⟩
      · rw [ch_up (by omega)]
        rcases h5 e (by omega) with ⟨q, hq, eq⟩ | w
        · by_cases x : q = p
          · rw [← eq, x, hc]; exact Or.inr (Or.inr ⟨m, by omega, by rw [uN_s]⟩)
          · exact Or.inl ⟨q, by omega, by rw [uN_n (by omega), uN_n x]; exact eq⟩
        · exact Or.inr w.up
theorem CD.skip {m p : Nat} {N E : NN} {num nod wai : FF} (h : CD g L H m (p + 1) N E num nod wai) : CD g L H m p N E num nod wai := ⟨h.1, h.2.1, fun q hq => h.2.2 q (by omega)⟩
theorem CD.new (hA : AR g V L H var low high) {m p i : Nat} {N E : NN} {num nod wai : FF} (hG : GD g V L H m (p + 1) N E) (h : CD g L H m (p + 1) N E num nod wai) (hi : i < g) (hn : ∀ j, j < m → N j ≠ i) : CD g L H (m + 1) (p + 2) (uN N m i) (uN (uN E p (2 * m + 1)) (p + 1) (2 * m)) (upd num i (nI m)) (upd nod m (nI i)) (upd (upd wai p (high i)) (p + 1) (low i)) := by
  obtain ⟨h1, h2, h3⟩ := h
  refine ⟨fun j hj => ?_, fun i' hi' hn' => ?_, fun q hq => ?_⟩
  · by_cases z : j = m
    · rw [z, uN_s, upd_s, upd_s]; exact ⟨rfl, rfl⟩
    · rw [uN_n z, upd_n z, upd_n (hn j (by omega))]; exact h1 j (by omega)
  · have a := hn' m (by omega)
    rw [uN_s] at a
    rw [upd_n (fun z => a z.symm)]
    exact h2 i' hi' (fun j hj => by have := hn' j (by omega); rw [uN_n (by omega)] at this; exact this)
  · obtain ⟨a1, a2, a3⟩ := hA i hi
    by_cases z : q = p + 1
    · rw [z, upd_s, uN_s, ch_lo]; exact a2
    · rw [upd_n z, uN_n z]
      by_cases y : q = p
      · rw [y, upd_s, uN_s, ch_hi]; exact a3
      · rw [upd_n y, uN_n y, ch_up (hG.2.2.2.1 q (by omega)).1]; exact h3 q (by omega)
theorem MD.skip {m p : Nat} {N E : NN} {node : FL} {nv nl nh mw : FF} {r : Int32} (h : MD V L H F m (p + 1) N E node nv nl nh mw) (hr : NR N m (ch L H N (E p)) r) : MD V L H F m p N E node nv (ul nl (E p) r) (uh nh (E p) r) mw := by
  obtain ⟨h1, h2, h3⟩ := h
  refine ⟨h1, fun q hq => h2 q (by omega), fun e he => ?_⟩
  by_cases z : e = E p
  · rw [z, nlh_s]; exact Or.inr hr
  · rw [nlh_n z]
    rcases h3 e he with ⟨q, hq, eq⟩ | w
    · refine Or.inl ⟨q, ?_, eq⟩
      have : q ≠ p := fun y => z (by rw [← eq, y])
      omega
    · exact Or.inr w
theorem MD.new {m p i : Nat} {N E : NN} {node node' : FL} {nv nv' nl nh mw : FF} (hG : GD g V L H m (p + 1) N E) (h : MD V L H F m (p + 1) N E node nv nl nh mw) (hc : ch L H N (E p) = i + 2) (t1 : TN node' m (F (i + 2))) (t2 : ∀ j, j < m → TN node' j (F (N j + 2))) (t3 : nv' m = nI (V i)) (t4 : ∀ j, j ≠ m → nv' j = nv j) :
    MD V L H F (m + 1) (p + 2) (uN N m i) (uN (uN E p (2 * m + 1)) (p + 1) (2 * m)) node' nv' (ul nl (E p) (nI m)) (uh nh (E p) (nI m)) (upd (upd mw p (nI (2 * m + 1))) (p + 1) (nI (2 * m))) := by
  obtain ⟨h1, h2, h3⟩ := h
  refine ⟨fun j hj => ?_, fun q hq => ?_, fun e he => ?_⟩
  · by_cases z : j = m
    · rw [z, uN_s]; exact ⟨t1, t3⟩
    · rw [uN_n z, t4 j z]; exact ⟨t2 j (by omega), (h1 j (by omega)).2⟩
  · by_cases z : q = p + 1
    · rw [z, upd_s, uN_s]
    · rw [upd_n z, uN_n z]
      by_cases y : q = p
      · rw [y, upd_s, uN_s]
      · rw [upd_n y, uN_n y]; exact h2 q (by omega)
  · by_cases z : e = 2 * m
    · exact Or.inl ⟨p + 1, by omega, by rw [uN_s, z]⟩
    · by_cases y : e = 2 * m + 1
      · exact Or.inl ⟨p, by omega, by rw [uN_n (by omega), uN_s, y]⟩
      · rw [ch_up (by omega)]
        by_cases x : e = E p
        · rw [x, nlh_s, hc]; exact Or.inr (Or.inr ⟨m, by omega, by rw [uN_s], rfl⟩)
        · rw [nlh_n x]
          rcases h3 e (by omega) with ⟨q, hq, eq⟩ | w
          · have : q ≠ p := fun y => x (by rw [← eq, y])
            exact Or.inl ⟨q, by omega, by rw [uN_n (by omega), uN_n this]; exact eq⟩
          · exact Or.inr w.up
theorem m_step {m p f : Nat} {E : NN} {se node : FL} {nv nl nh mw : FF} {k : Int32 → FL → FL → FF → FF → FF → FF → Prop} (hp : p < 12) (he : E p < 600) (hw : mw p = nI (E p)) (h : p_M_draw_J89 (p_M_draw_L56 k f) (nI p) (nI (E p / 2)) (bI (decide (E p % 2 = 1))) (nI m) se node nv nl nh mw) : p_M_draw_L56 k (f + 1) (nI (p + 1)) (nI m) se node nv nl nh mw := by
  have ec : (nI p).toNatClampNeg = p := n_cl
  have e1 : nI (E p) / 2 = nI (E p / 2) := pk_div (d := 2) (by omega) (by decide) (by decide)
  have e2 : nI (E p) - nI (E p / 2) * 2 = nI (E p % 2) := by rw [← e1]; exact pk_rem (d := 2) (by omega) (by decide) (by decide)
  unfold p_M_draw_L56
  rw [n_m1, ec, hw, e1, e2]
  refine cf (n_nle (b := 0) (by omega)) ⟨n_in (by omega), fun v2 h2 => ?_⟩
  rw [h2]
  by_cases q : E p % 2 = 1
  · have hb : bI (decide (E p % 2 = 1)) = 1 := by rw [show decide (E p % 2 = 1) = true by simp [q]]; rfl
    rw [hb] at h
    rw [q]
    exact dt rfl h
  · have hb : bI (decide (E p % 2 = 1)) = 0 := by rw [show decide (E p % 2 = 1) = false by simp [q]]; rfl
    rw [hb] at h
    have : E p % 2 = 0 := by omega
    rw [this]
    exact df (by decide) h
theorem dfs (hI : IV g V L H F) (hA : AR g V L H var low high) (hg : g ≤ 269) : ∀ (d x m s : Nat) (N E : NN), d + x = 539 → s + x = 1 + 2 * m → GD g V L H m s N E → ∃ (m' : Nat) (N' E' : NN), GD g V L H m' 0 N' E' ∧ m ≤ m' ∧ (∀ j, j < m → N' j = N j) ∧
    (∀ (num nod wai : FF) (k : FF → FF → FF → Prop), CD g L H m s N E num nod wai → (∀ num' nod' wai', CD g L H m' 0 N' E' num' nod' wai' → k num' nod' wai') → p_G_numberFrom_L14 low high k (d + 1) (nI m) (nI s) (nI x) num nod wai) ∧
    (∀ (se node : FL) (nv nl nh mw : FF) (k : Int32 → FL → FL → FF → FF → FF → FF → Prop), MD V L H F m s N E node nv nl nh mw → (∀ se' node' nv' nl' nh' mw', MD V L H F m' 0 N' E' node' nv' nl' nh' mw' → k (nI m') se' node' nv' nl' nh' mw') → p_M_draw_L56 k (d + 1) (nI s) (nI m) se node nv nl nh mw)
  | 0, x, m, s, N, E, hd, hs, hG => by
    have := hG.1
    have hx : x = 539 := by omega
    subst hx
    have : s = 0 := by omega
    subst this
    refine ⟨m, N, E, hG, Nat.le_refl _, fun _ _ => rfl, fun num nod wai k h hk => ?_, fun se node nv nl nh mw k h hk => ?_⟩
    · unfold p_G_numberFrom_L14; exact ct (by decide) (hk _ _ _ h)
    · unfold p_M_draw_L56; exact ct (by decide) (hk _ _ _ _ _ _ h)
  | d + 1, x, m, 0, N, E, hd, hs, hG => by
    refine ⟨m, N, E, hG, Nat.le_refl _, fun _ _ => rfl, fun num nod wai k h hk => ?_, fun se node nv nl nh mw k h hk => ?_⟩
    · unfold p_G_numberFrom_L14; exact cf (n_nlt (a := 538) (by omega)) (ct (by decide) (hk _ _ _ h))
    · unfold p_M_draw_L56; exact ct (by decide) (hk _ _ _ _ _ _ h)
  | d + 1, x, m, p + 1, N, E, hd, hs, hG => by
    have hmg := hG.1
    obtain ⟨eb, el⟩ := hG.2.2.2.1 p (by omega)
    have hcl := ch_lt hI hG.2.1 eb
    have hlv := lev_le hI hcl
    by_cases ho : OKE N m (ch L H N (E p))
    · obtain ⟨m', N', E', r1, r2, r3, r4, r5⟩ := dfs hI hA hg d (x + 1) m p N E (by omega) (by omega) (hG.skip ho)
      refine ⟨m', N', E', r1, r2, r3, fun num nod wai k h hk => ?_, fun se node nv nl nh mw k h hk => ?_⟩
      · refine c_skip (c := ch L H N (E p)) (by omega) (by omega) (by omega) (h.2.2 p (by omega)) ?_ (r4 _ _ _ _ h.skip hk)
        rcases ho with z | ⟨j, j1, j2⟩
        · exact Or.inl z
        · refine Or.inr ⟨by omega, ?_⟩
          rw [← j2, show N j + 2 - 2 = N j by omega, (h.1 j j1).2]
          exact nI_nm1 (by omega)
      · refine m_step (by omega) (by omega) (h.2.1 p (by omega)) (s_j89 hI (by omega) (by omega) eb (fun j hj => ⟨hG.2.1 j hj, h.1 j hj⟩) (fun r se' hr => r5 _ _ _ _ _ _ _ (h.skip hr) hk) (fun i _ _ _ hc hn _ _ _ _ => ?_))
        rcases ho with z | ⟨j, j1, j2⟩
        · omega
        · exact absurd (by omega) (hn j j1)
    · obtain ⟨i, hc⟩ : ∃ i, ch L H N (E p) = i + 2 := ⟨ch L H N (E p) - 2, by
        have : ¬ ch L H N (E p) < 2 := fun z => ho (Or.inl z)
        omega⟩
      have hi : i < g := by omega
      have hn : ∀ j, j < m → N j ≠ i := fun j hj z => ho (Or.inr ⟨j, hj, by rw [hc, z]⟩)
      rw [hc, lev_2] at el
      have hVi := (hI.2.2.1 i hi).2.1
      have hGn := hG.new hI hc hi hn
      have := hGn.1
      obtain ⟨m', N', E', r1, r2, r3, r4, r5⟩ := dfs hI hA hg d (x + 1) (m + 1) (p + 2) _ _ (by omega) (by omega) hGn
      refine ⟨m', N', E', r1, by omega, fun j hj => by rw [r3 j (by omega), uN_n (by omega)], fun num nod wai k h hk => ?_, fun se node nv nl nh mw k h hk => ?_⟩
      · exact c_new (i := i) (by omega) (by omega) (by omega) (by omega) (by rw [h.2.2 p (by omega), hc, sd_2]) (h.2.1 i hi hn) (r4 _ _ _ _ (CD.new hA hG h hi hn) hk)
      · refine m_step (by omega) (by omega) (h.2.1 p (by omega)) (s_j89 hI (by omega) (by omega) eb (fun j hj => ⟨hG.2.1 j hj, h.1 j hj⟩) (fun r se' hr => absurd hr.ok ho) (fun i' se' node' nv' hc' _ t1 t2 t3 t4 => ?_))
        have : i' = i := by omega
        subst this
        exact r5 _ _ _ _ _ _ _ (MD.new hG h hc t1 t2 t3 t4) hk
end DF
/-! the two graphs -/
theorem l_d7 {told : FL} {k : FL → Prop} (hk : ∀ se : FL, (∀ i, i < 16 → se i = told i) → k se) : ∀ (d w : Nat) (se : FL), d + w = 16 → (∀ i, i < w → se i = told i) → p_M_draw_L7 told k (d + 1) (nI w) se
  | 0, w, se, hd, h => by
    have : w = 16 := by omega
    subst this
    unfold p_M_draw_L7
    exact ct (by decide) (hk se h)
  | d + 1, w, se, hd, h => by
    have ec : (nI w).toNatClampNeg = w := n_cl
    unfold p_M_draw_L7
    rw [ec, n_p1]
    refine cf (n_nle (a := 16) (by omega)) ⟨n_in (by omega), l_d7 hk d (w + 1) _ (by omega) (fun i hi => ?_)⟩
    by_cases e : i = w
    · rw [e, updL_s]
    · rw [updL_n e]; exact h i (by omega)
theorem cap_0 : cap 0 = 269 := by decide
theorem dgraph {T : Nat → Bool} {g : Nat} {V L H : NN} {F : NB} {var low high num sides : FF} {S : NN} (h : OL T 0 g V L H F var low high num sides S) : ∃ N : NN, (∀ j, j < g → N j < g) ∧ (∀ i, i < g → ∃ j, j < g ∧ N j = i) ∧
    (∀ (nod wai : FF) (k : FF → FF → FF → Prop), (∀ num' nod' wai' : FF, (∀ j, j < g → nod' j = nI (N j) ∧ num' (N j) = nI j) → k num' nod' wai') → p_G_numberFrom low high num nod wai (sd (S 0)) k) ∧
    (∀ (told se node : FL) (nv nl nh mw : FF) (k : Int32 → FL → FL → FF → FF → FF → FF → Prop), TS told T → (∀ (se' node' : FL) (nv' nl' nh' mw' : FF), (∀ j, j < g → nv' j = nI (V (N j)) ∧ NR N g (L (N j)) (nl' j) ∧ NR N g (H (N j)) (nh' j)) → k (nI g) se' node' nv' nl' nh' mw') → p_M_draw told se node nv nl nh mw k) := by
  obtain ⟨hI, hA, hm, hcap, h2, h3, h4⟩ := h
  rw [cap_0] at hcap
  obtain ⟨s1, s2, s3, s4⟩ := h3 0 (by decide)
  have hT : ∀ x, x < 1024 → F (S 0) x = T x := fun x hx => by
    rw [s4 x hx]; unfold mix; simp
  have toS : ∀ told se : FL, TS told T → (∀ i, i < 16 → se i = told i) → TS se (F (S 0)) := fun told se a b w hw c hc => by
    rw [b w hw, a w hw c hc, hT _ (by omega)]
  rcases Nat.lt_or_ge (S 0) 2 with z | z
  · have g0 : g = 0 := by
      rcases Nat.eq_zero_or_pos g with q | q
      · exact q
      · have := h4 (fun c => c < 2) (fun i hi hq => by omega) (fun c ⟨p, hp, e⟩ => by
          have : p = 0 := by simpa using hp
          rw [e, this]; exact z) 0 q
        omega
    subst g0
    refine ⟨fun _ => 0, fun j hj => absurd hj (Nat.not_lt_zero j), fun j hj => absurd hj (Nat.not_lt_zero j), fun nod wai k hk => ?_, fun told se node nv nl nh mw k ht hk => ?_⟩
    · unfold p_G_numberFrom
      refine ⟨1 + 1, c_skip (m := 0) (p := 0) (x := 0) (c := S 0) (by omega) (by omega) (by omega) upd_s (Or.inl z) ?_⟩
      unfold p_G_numberFrom_L14
      exact cf (by decide) (ct (by decide) (hk _ _ _ (fun j hj => absurd hj (Nat.not_lt_zero j))))
    · unfold p_M_draw
      have fin : ∀ (r : Int32) (se' : FL), r ≠ 0 → (¬ r = 0 → ∃ j, p_M_draw_L56 k j 0 (nI 0) se' node nv nl nh mw) ∧ (r = 0 → ∃ j, p_M_draw_L56 k j 2 (nI 0) se' node nv nl nh (upd (upd mw (0 : Int32).toNatClampNeg 1) (1 : Int32).toNatClampNeg 0)) := fun r se' hr => by
        refine df hr ⟨1, ?_⟩
        unfold p_M_draw_L56
        exact ct (by decide) (hk _ _ _ _ _ _ (fun j hj => absurd hj (Nat.not_lt_zero j)))
      refine ⟨17, l_d7 (fun se' hse => s_nodeOf (m := 0) (N := fun _ => 0) hI (by omega) s2 (toS told se' ht hse) (fun j hj => absurd hj (Nat.not_lt_zero j)) (fun _ => fin (-2) _ (by decide)) (fun _ => fin (-3) _ (by decide)) (fun j hj => absurd hj (Nat.not_lt_zero j)) (fun i _ _ hc => by omega)) 16 0 se (by omega) (fun i hi => absurd hi (Nat.not_lt_zero i))⟩
  · obtain ⟨r, hr⟩ : ∃ r, S 0 = r + 2 := ⟨S 0 - 2, by omega⟩
    have hrg : r < g := by omega
    obtain ⟨v1, v2, lo, hi', ne, ll, lh, ff⟩ := hI.2.2.1 r hrg
    have hG : GD g V L H 1 2 (fun _ => r) (uN (uN (fun _ => 0) 0 1) 1 0) := by
      refine ⟨by omega, fun _ _ => hrg, fun i j hi hj _ => by omega, fun p hp => ?_, fun e he => ?_⟩
      · have : p = 0 ∨ p = 1 := by omega
        rcases this with rfl | rfl
        · show (1 : Nat) < 2 ∧ 0 + 1 ≤ lev V (H r); exact ⟨by omega, by omega⟩
        · show (0 : Nat) < 2 ∧ 1 + 1 ≤ lev V (L r); exact ⟨by omega, by omega⟩
      · have : e = 0 ∨ e = 1 := by omega
        rcases this with rfl | rfl
        · exact Or.inl ⟨1, by omega, rfl⟩
        · exact Or.inl ⟨0, by omega, rfl⟩
    obtain ⟨m', N', E', r1, r2, r3, r4, r5⟩ := dfs hI hA hcap 538 1 1 2 (fun _ => r) _ (by omega) (by omega) hG
    have edges : ∀ e, e < 2 * m' → OKE N' m' (ch L H N' e) := fun e he => by
      rcases r1.2.2.2.2 e he with ⟨p, hp, _⟩ | w
      · exact absurd hp (Nat.not_lt_zero p)
      · exact w
    have all : ∀ i, i < g → ∃ j, j < m' ∧ N' j = i := fun i hi => by
      have := h4 (OKE N' m') (fun i hi hq => by
        rcases hq with hq | ⟨j, j1, j2⟩
        · omega
        · have e1 := edges (2 * j) (by omega)
          have e2 := edges (2 * j + 1) (by omega)
          unfold ch at e1 e2
          rw [if_neg (by omega), show 2 * j / 2 = j by omega, show N' j = i by omega] at e1
          rw [if_pos (by omega), show (2 * j + 1) / 2 = j by omega, show N' j = i by omega] at e2
          exact ⟨e1, e2⟩) (fun c ⟨p, hp, e⟩ => by
          have : p = 0 := by simpa using hp
          rw [e, this, hr]
          exact Or.inr ⟨0, by omega, by rw [r3 0 (by omega)]⟩) i hi
      rcases this with q | ⟨j, j1, j2⟩
      · omega
      · exact ⟨j, j1, by omega⟩
    have hm' : m' = g := by
      have le := r1.1
      have ge : g ≤ m' := PH m' g (fun i => if q : i < g then (all i q).choose else 0) (fun i hi => by
        show (if q : i < g then (all i q).choose else 0) < m'
        rw [dif_pos hi]; exact (all i hi).choose_spec.1) (fun i j hi hj hij => by
        have hij : (if q : i < g then (all i q).choose else 0) = (if q : j < g then (all j q).choose else 0) := hij
        rw [dif_pos hi, dif_pos hj] at hij
        have a := (all i hi).choose_spec.2
        have b := (all j hj).choose_spec.2
        rw [← a, ← b, hij])
      omega
    subst hm'
    refine ⟨N', r1.2.1, all, fun nod wai k hk => ?_, fun told se node nv nl nh mw k ht hk => ?_⟩
    · unfold p_G_numberFrom
      refine ⟨539 + 1, c_new (m := 0) (p := 0) (x := 0) (i := r) (by omega) (by omega) (by omega) (by omega) (by show upd wai 0 (sd (S 0)) 0 = nI r; rw [upd_s, hr, sd_2]) (hm r hrg) (r4 _ _ _ _ ⟨fun j hj => ?_, fun i hi hn => ?_, fun p hp => ?_⟩ (fun a b c hcd => hk a b c (fun j hj => hcd.1 j hj)))⟩
      · have : j = 0 := by omega
        subst this
        rw [upd_s, upd_s]; exact ⟨rfl, rfl⟩
      · have := hn 0 (by omega)
        rw [upd_n (fun z => this z.symm)]; exact hm i hi
      · obtain ⟨a1, a2, a3⟩ := hA r hrg
        have : p = 0 ∨ p = 1 := by omega
        rcases this with rfl | rfl
        · rw [upd_n (by decide), upd_s]; exact a3
        · rw [upd_s]; exact a2
    · unfold p_M_draw
      refine ⟨17, l_d7 (fun se' hse => s_nodeOf (m := 0) (N := fun _ => 0) hI (by omega) s2 (toS told se' ht hse) (fun j hj => absurd hj (Nat.not_lt_zero j)) (fun q => by omega) (fun q => by omega) (fun j hj => absurd hj (Nat.not_lt_zero j)) (fun i node' nv' hc _ t1 _ t3 _ => dt rfl ⟨538 + 1, ?_⟩)) 16 0 se (by omega) (fun i hi => absurd hi (Nat.not_lt_zero i))⟩
      have : i = r := by omega
      subst this
      refine r5 _ _ _ _ _ _ _ ⟨fun j hj => ?_, fun p hp => ?_, fun e he => ?_⟩ (fun a b c d e f hmd => hk a b c d e f (fun j hj => ⟨(hmd.1 j hj).2, ?_, ?_⟩))
      · have : j = 0 := by omega
        subst this
        exact ⟨t1, t3⟩
      · have : p = 0 ∨ p = 1 := by omega
        rcases this with rfl | rfl
        · rfl
        · rfl
      · have : e = 0 ∨ e = 1 := by omega
        rcases this with rfl | rfl
        · exact Or.inl ⟨1, by omega, rfl⟩
        · exact Or.inl ⟨0, by omega, rfl⟩
      · rcases hmd.2.2 (2 * j) (by omega) with ⟨p, hp, _⟩ | w
        · exact absurd hp (Nat.not_lt_zero p)
        · unfold ch nlh at w
          rw [if_neg (by omega), if_neg (by omega), show 2 * j / 2 = j by omega] at w
          exact w
      · rcases hmd.2.2 (2 * j + 1) (by omega) with ⟨p, hp, _⟩ | w
        · exact absurd hp (Nat.not_lt_zero p)
        · unfold ch nlh at w
          rw [if_pos (by omega), if_pos (by omega), show (2 * j + 1) / 2 = j by omega] at w
          exact w

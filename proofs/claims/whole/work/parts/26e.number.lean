/-! PURE: numbering -/
def ch (L H N : NN) (e : Nat) : Nat := if e % 2 = 1 then H (N (e / 2)) else L (N (e / 2))
def OKE (N : NN) (m c : Nat) : Prop := c < 2 ∨ ∃ j, j < m ∧ N j + 2 = c
def NR (N : NN) (m c : Nat) (r : Int32) : Prop := (c < 2 ∧ r = sd c) ∨ (∃ j, j < m ∧ N j + 2 = c ∧ r = nI j)
def nlh (nl nh : FF) (e : Nat) : Int32 := if e % 2 = 1 then nh (e / 2) else nl (e / 2)
def GD (g : Nat) (V L H : NN) (m s : Nat) (N E : NN) : Prop := m ≤ g ∧ (∀ j, j < m → N j < g) ∧ (∀ i j, i < m → j < m → N i = N j → i = j) ∧ (∀ p, p < s → E p < 2 * m ∧ p + 1 ≤ lev V (ch L H N (E p))) ∧ (∀ e, e < 2 * m → (∃ p, p < s ∧ E p = e) ∨ OKE N m (ch L H N e))
def CD (g : Nat) (L H : NN) (m s : Nat) (N E : NN) (num nod wai : FF) : Prop := (∀ j, j < m → nod j = nI (N j) ∧ num (N j) = nI j) ∧ (∀ i, i < g → (∀ j, j < m → N j ≠ i) → num i = -1) ∧ (∀ p, p < s → wai p = sd (ch L H N (E p)))
def MD (V L H : NN) (F : NB) (m s : Nat) (N E : NN) (node : FL) (nv nl nh mw : FF) : Prop := (∀ j, j < m → TN node j (F (N j + 2)) ∧ nv j = nI (V (N j))) ∧ (∀ p, p < s → mw p = nI (E p)) ∧ (∀ e, e < 2 * m → (∃ p, p < s ∧ E p = e) ∨ NR N m (ch L H N e) (nlh nl nh e))
theorem ch_up {L H N : NN} {m i e : Nat} (h : e < 2 * m) : ch L H (uN N m i) e = ch L H N e := by
  unfold ch
  rw [uN_n (show e / 2 ≠ m by omega)]
theorem ch_hi {L H N : NN} {m i : Nat} : ch L H (uN N m i) (2 * m + 1) = H i := by
  unfold ch
  rw [if_pos (by omega), show (2 * m + 1) / 2 = m by omega, uN_s]
theorem ch_lo {L H N : NN} {m i : Nat} : ch L H (uN N m i) (2 * m) = L i := by
  unfold ch
  rw [if_neg (by omega), show (2 * m) / 2 = m by omega, uN_s]
theorem NR.up {N : NN} {m c i : Nat} {r : Int32} (h : NR N m c r) : NR (uN N m i) (m + 1) c r := by
  rcases h with h | ⟨j, h1, h2, h3⟩
  · exact Or.inl h
  · exact Or.inr ⟨j, by omega, by rw [uN_n (by omega)]; exact h2, h3⟩
theorem OKE.up {N : NN} {m c i : Nat} (h : OKE N m c) : OKE (uN N m i) (m + 1) c := by
  rcases h with h | ⟨j, h1, h2⟩
  · exact Or.inl h
  · exact Or.inr ⟨j, by omega, by rw [uN_n (by omega)]; exact h2⟩
theorem lev_le {g : Nat} {V L H : NN} {F : NB} (hI : IV g V L H F) {c : Nat} (hc : c < g + 2) : lev V c ≤ 11 := by
  rcases Nat.lt_or_ge c 2 with z | z
  · unfold lev; rw [if_pos z]; exact Nat.le_refl _
  · obtain ⟨i, rfl⟩ : ∃ i, c = i + 2 := ⟨c - 2, by omega⟩
    rw [lev_2]
    have := (hI.2.2.1 i (by omega)).2.1
    omega
theorem ch_lt {g : Nat} {V L H : NN} {F : NB} (hI : IV g V L H F) {N : NN} {m e : Nat} (hN : ∀ j, j < m → N j < g) (he : e < 2 * m) : ch L H N e < g + 2 := by
  have h := hN (e / 2) (by omega)
  obtain ⟨_, _, lo, hi, _⟩ := hI.2.2.1 _ h
  unfold ch
  by_cases q : e % 2 = 1
  · rw [if_pos q]; omega
  · rw [if_neg q]; omega
/-! the class's steps -/
theorem sd_neg {c : Nat} (h : c < 2) : sd c < 0 := by
  have : c = 0 ∨ c = 1 := by omega
  rcases this with rfl | rfl <;> decide
theorem c_skip {low high num nod wai : FF} {k : FF → FF → FF → Prop} {f m p x c : Nat} (hx : x ≤ 538) (hp : p < 12) (hc : c < 271) (hw : wai p = sd c) (hs : c < 2 ∨ (2 ≤ c ∧ num (c - 2) ≠ -1)) (h : p_G_numberFrom_L14 low high k f (nI m) (nI p) (nI (x + 1)) num nod wai) : p_G_numberFrom_L14 low high k (f + 1) (nI m) (nI (p + 1)) (nI x) num nod wai := by
  have ec : (nI p).toNatClampNeg = p := n_cl
  unfold p_G_numberFrom_L14
  rw [n_m1, ec, hw, n_p1 x]
  refine cf (n_nlt (a := 538) hx) (cf (n_nle (b := 0) (by omega)) ⟨n_in (by omega), fun _ => h, fun q => ?_⟩)
  rcases hs with hs | ⟨hs1, hs2⟩
  · exact absurd (sd_neg hs) q
  · obtain ⟨i, rfl⟩ : ∃ i, c = i + 2 := ⟨c - 2, by omega⟩
    have ei : (nI i).toNatClampNeg = i := n_cl
    rw [sd_2, ei]
    refine ⟨n_in (by omega), fun _ => h, fun q2 => absurd q2 ?_⟩
    exact hs2
theorem c_new {low high num nod wai : FF} {k : FF → FF → FF → Prop} {f m p x i : Nat} (hx : x ≤ 538) (hp : p + 1 < 12) (hi : i < 269) (hm : m < 269) (hw : wai p = nI i) (hn : num i = -1) (h : p_G_numberFrom_L14 low high k f (nI (m + 1)) (nI (p + 2)) (nI (x + 1)) (upd num i (nI m)) (upd nod m (nI i)) (upd (upd wai p (high i)) (p + 1) (low i))) : p_G_numberFrom_L14 low high k (f + 1) (nI m) (nI (p + 1)) (nI x) num nod wai := by
  have ec : (nI p).toNatClampNeg = p := n_cl
  have ec1 : (nI (p + 1)).toNatClampNeg = p + 1 := n_cl
  have ei : (nI i).toNatClampNeg = i := n_cl
  have em : (nI m).toNatClampNeg = m := n_cl
  have e2 : nI p + 2 = nI (p + 2) := nI_add p 2
  unfold p_G_numberFrom_L14
  rw [n_m1, ec, hw, ei, n_p1 x, n_p1 p, n_p1 m, ec1, em, e2]
  refine cf (n_nlt (a := 538) hx) (cf (n_nle (b := 0) (by omega)) ⟨n_in (by omega), fun q => absurd q (n_nlt (b := 0) (Nat.zero_le _)), fun _ => ⟨n_in (by omega), fun q => absurd hn q, fun _ => cf (n_nle (a := 12) (by omega)) ⟨n_in (by omega), fun v9 h9 => ⟨n_in (by omega), fun v11 h11 => ?_⟩⟩⟩⟩)
  rw [h9, h11]; exact h
/-! the reference's step -/
def ul (nl : FF) (e : Nat) (r : Int32) : FF := if e % 2 = 1 then nl else upd nl (e / 2) r
def uh (nh : FF) (e : Nat) (r : Int32) : FF := if e % 2 = 1 then upd nh (e / 2) r else nh
theorem nlh_s {nl nh : FF} {e : Nat} {r : Int32} : nlh (ul nl e r) (uh nh e r) e = r := by
  unfold nlh ul uh
  by_cases q : e % 2 = 1
  · rw [if_pos q, if_pos q, upd_s]
  · rw [if_neg q, if_neg q, upd_s]
theorem nlh_n {nl nh : FF} {e e' : Nat} {r : Int32} (h : e' ≠ e) : nlh (ul nl e r) (uh nh e r) e' = nlh nl nh e' := by
  unfold nlh ul uh
  by_cases q : e % 2 = 1 <;> by_cases q' : e' % 2 = 1
  · rw [if_pos q', if_pos q', if_pos q, upd_n (by omega)]
  · rw [if_neg q', if_neg q', if_pos q]
  · rw [if_pos q', if_pos q', if_neg q]
  · rw [if_neg q', if_neg q', if_neg q, upd_n (by omega)]
theorem s_j89 {g m p e : Nat} {V L H N : NN} {F : NB} {se node : FL} {nv nl nh mw : FF} {k : Int32 → Int32 → FL → FL → FF → FF → FF → FF → Prop} (hI : IV g V L H F) (hp : p + 1 < 640) (hm : m < 299) (he : e < 2 * m) (hN : ∀ j, j < m → N j < g ∧ TN node j (F (N j + 2)) ∧ nv j = nI (V (N j)))
    (hs : ∀ r se', NR N m (ch L H N e) r → k (nI p) (nI m) se' node nv (ul nl e r) (uh nh e r) mw)
    (hn : ∀ (i : Nat) (se' node' : FL) (nv' : FF), ch L H N e = i + 2 → (∀ j, j < m → N j ≠ i) → TN node' m (F (i + 2)) → (∀ j, j < m → TN node' j (F (N j + 2))) → nv' m = nI (V i) → (∀ j, j ≠ m → nv' j = nv j) → k (nI (p + 2)) (nI (m + 1)) se' node' nv' (ul nl e (nI m)) (uh nh e (nI m)) (upd (upd mw p (nI (2 * m + 1))) (p + 1) (nI (2 * m)))) :
    p_M_draw_J89 k (nI p) (nI (e / 2)) (bI (decide (e % 2 = 1))) (nI m) se node nv nl nh mw := by
  obtain ⟨n1, n2, n3⟩ := hN (e / 2) (by omega)
  obtain ⟨v1, v2, lo, hi', ne, ll, lh, ff⟩ := hI.2.2.1 _ n1
  have ec : (nI p).toNatClampNeg = p := n_cl
  have ec1 : (nI (p + 1)).toNatClampNeg = p + 1 := n_cl
  have ej : (nI (e / 2)).toNatClampNeg = e / 2 := n_cl
  have hch := ch_lt hI (fun j hj => (hN j hj).1) he
  unfold p_M_draw_J89
  refine ⟨17, l_d93 (u := V (N (e / 2)) - 1) (by omega) (by omega) (by rw [n3, show V (N (e / 2)) - 1 + 1 = V (N (e / 2)) by omega]) n2 (fun se' hse => ?_) 16 0 se (by omega) (fun i hi => absurd hi (Nat.not_lt_zero i))⟩
  have hse2 : TS se' (F (ch L H N e)) := fun w hw b hb => by
    rw [hse w hw b hb]
    unfold ch
    by_cases q : e % 2 = 1
    · rw [if_pos q, show decide (e % 2 = 1) = true by simp [q]]; exact side1 hI n1 _
    · rw [if_neg q, show decide (e % 2 = 1) = false by simp [q]]; exact side0 hI n1 _
  have fin : ∀ (r nodes : Int32) (node' : FL) (nv' : FF), (∀ (a b : FF), a = ul nl e r → b = uh nh e r → p_M_draw_J156 k (nI p) (nI m) r nodes se' node' nv' a b mw) → (bI (decide (e % 2 = 1)) = 0 → vp_in (nI (e / 2)) 300 ∧ p_M_draw_J156 k (nI p) (nI m) r nodes se' node' nv' (upd nl (nI (e / 2)).toNatClampNeg r) nh mw) ∧ (¬ bI (decide (e % 2 = 1)) = 0 → vp_in (nI (e / 2)) 300 ∧ p_M_draw_J156 k (nI p) (nI m) r nodes se' node' nv' nl (upd nh (nI (e / 2)).toNatClampNeg r) mw) := fun r nodes node' nv' h => by
    rw [ej]
    refine ⟨fun q => ⟨n_in (by omega), h _ _ ?_ ?_⟩, fun q => ⟨n_in (by omega), h _ _ ?_ ?_⟩⟩
    · have : ¬ e % 2 = 1 := by simpa using bI_0.mp q
      unfold ul; rw [if_neg this]
    · have : ¬ e % 2 = 1 := by simpa using bI_0.mp q
      unfold uh; rw [if_neg this]
    · have : e % 2 = 1 := by
        have := mt bI_0.mpr q
        simpa using this
      unfold ul; rw [if_pos this]
    · have : e % 2 = 1 := by
        have := mt bI_0.mpr q
        simpa using this
      unfold uh; rw [if_pos this]
  refine s_nodeOf hI hm hch hse2 (fun j hj => ⟨(hN j hj).1, (hN j hj).2.1⟩) (fun c0 => fin _ _ _ _ (fun a b ea eb => ?_)) (fun c1 => fin _ _ _ _ (fun a b ea eb => ?_)) (fun j hj hc => fin _ _ _ _ (fun a b ea eb => ?_)) (fun i node' nv' hc h1 h2 h3 h4 h5 => fin _ _ _ _ (fun a b ea eb => ?_))
  · rw [ea, eb]; unfold p_M_draw_J156
    exact dt rfl (hs _ _ (Or.inl ⟨by omega, by rw [c0]; rfl⟩))
  · rw [ea, eb]; unfold p_M_draw_J156
    exact dt rfl (hs _ _ (Or.inl ⟨by omega, by rw [c1]; rfl⟩))
  · rw [ea, eb]; unfold p_M_draw_J156
    exact dt rfl (hs _ _ (Or.inr ⟨j, hj, hc, rfl⟩))
  · rw [ea, eb]; unfold p_M_draw_J156
    have e2 : nI p + 2 = nI (p + 2) := nI_add p 2
    have em : (2 : Int32) * nI m = nI (2 * m) := pk_mul 2 m
    rw [n_p1 p, ec, ec1, e2, em, n_p1 (2 * m)]
    exact df (n_ne (by omega)) ⟨n_in (by omega), n_in (by omega), hn i se' node' nv' hc h1 h2 h3 h4 h5⟩

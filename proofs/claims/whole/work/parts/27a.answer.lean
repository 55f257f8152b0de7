/-! PURE: what was told last -/
def RA (root : Int32) (words : FL) (known : FF) (size : Int32) (var low high num nod : FF) (isT nodes : Int32) (kept : FL) (had : FF) (told : FL) (nv nl nh : FF) : Prop :=
  (root = 0 ∧ isT = 0 ∧ size = 0 ∧ ∀ i, i < 202 → known i = 0) ∨
  (∃ (e g : Nat) (N V L H : NN), 1 ≤ e ∧ e ≤ 200 ∧ g ≤ 269 ∧ root = nI e ∧ isT = 1 ∧ size = nI g ∧ nodes = nI g ∧ (∀ i, 1 ≤ i → i ≤ 200 → known i = had i) ∧ had 201 = 0 ∧ known e ≠ 0 ∧
    (∀ i, 1 ≤ i → i ≤ 200 → known i ≠ 0 → ∀ w, w < 16 → words (16 * i + w) = kept (16 * i + w)) ∧ (∀ w, w < 16 → told w = words (16 * e + w)) ∧
    (∀ j, j < g → N j < g) ∧ (∀ i, i < g → ∃ j, j < g ∧ N j = i) ∧ AR g V L H var low high ∧ (∀ j, j < g → nod j = nI (N j) ∧ num (N j) = nI j) ∧ (∀ j, j < g → nv j = nI (V (N j)) ∧ NR N g (L (N j)) (nl j) ∧ NR N g (H (N j)) (nh j)))
theorem lt1024 {x : Int32} : x < 1024 ↔ ¬ (1023 : Int32) < x := by
  have e4 : (1024 : Int32).toInt = 1024 := by decide
  have e3 : (1023 : Int32).toInt = 1023 := by decide
  rw [i_toInt_lt, i_toInt_lt, e4, e3]
  omega
def b01 (b : Bool) : Int32 := if b = true then 1 else 0
theorem s_truth {words : FL} {known : FF} {x1 x2 : Int32} {k : Int32 → Prop} (hno : (∀ i, 1 ≤ i → i ≤ 200 → x1 = nI i → known i = 0 ∨ ¬ inR x2 0 1023) → k (-1))
    (hyes : ∀ i y, 1 ≤ i → i ≤ 200 → known i ≠ 0 → y < 1024 → x1 = nI i → x2 = nI y → k (b01 (tbl words i y))) : p_A_truth words known x1 x2 k := by
  unfold p_A_truth
  by_cases h1 : inR x1 1 200
  · obtain ⟨i, i1, i2, rfl⟩ := inR_nat (a := 1) (b := 200) h1 (by decide) (by decide)
    have ec : (nI i).toNatClampNeg = i := n_cl
    have em : nI i * (16 : Int32) = nI (16 * i) := by rw [show (16 : Int32) = nI 16 from rfl, pk_mul, Nat.mul_comm]
    rw [ec, em]
    refine cf h1.1 (cf h1.2 ⟨n_in (by omega), ?_⟩)
    by_cases h2 : known i = 0
    · refine ct h2 (hno (fun j j1 j2 hj => Or.inl ?_))
      have : i = j := (nI_eq (by omega) (by omega)).mp hj
      rw [← this]; exact h2
    refine cf h2 ?_
    by_cases h3 : inR x2 0 1023
    · obtain ⟨y, -, y2, rfl⟩ := inR_nat (a := 0) (b := 1023) h3 (by decide) (by decide)
      exact cf h3.1 (ct (lt1024.mpr h3.2) (s_bitAt i2 (by omega) (hyes i y i1 i2 h2 (by omega) rfl rfl)))
    · have no := hno (fun _ _ _ _ => Or.inr h3)
      exact ⟨fun _ => no, fun q => ⟨fun q2 => absurd ⟨q, lt1024.mp q2⟩ h3, fun _ => no⟩⟩
  · have no := hno (fun i i1 i2 hx => absurd (by rw [hx]; exact ⟨n_nlt (b := 1) i1, n_nlt (a := 200) i2⟩) h1)
    exact ⟨fun _ => no, fun q => ⟨fun _ => no, fun q2 => absurd ⟨q, q2⟩ h1⟩⟩
theorem m_sh {y : Nat} (h : y < 1024) : nI y >>> ((6 : Int32) &&& 31) = nI (y / 64) := pk_shrN (by omega) _ 6 (by decide)
theorem m_an {y : Nat} (h : y < 1024) : nI y &&& (63 : Int32) = nI (y % 64) := pk_andN (by omega) 6 (by decide)
theorem m_bit {x : Int64} {y : Nat} : ((J_lshr x (nI (y % 64))) &&& 1).toInt32 = b01 (bL x (y % 64)) := by
  rw [bit_1, bL_sshr (Nat.mod_lt _ (by decide))]; rfl
theorem s_mprt {isT : Int32} {kept : FL} {had : FF} {x1 x2 : Int32} {k : Int32 → Prop} (hT : isT ≠ 0) (hno : (∀ i, 1 ≤ i → i ≤ 201 → x1 = nI i → had i = 0 ∨ ¬ inR x2 0 1023) → k (-1))
    (hyes : ∀ i y, 1 ≤ i → i ≤ 201 → had i ≠ 0 → y < 1024 → x1 = nI i → x2 = nI y → k (b01 (tbl kept i y))) : p_M_prt isT kept had x1 x2 k := by
  unfold p_M_prt
  refine cf hT (s_in (fun h1 => cf (by decide) ?_) (fun h1 => ct rfl (hno (fun i i1 i2 hx => absurd (by rw [hx]; exact ⟨n_nlt (b := 1) i1, n_nlt (a := 201) i2⟩) h1))))
  obtain ⟨i, i1, i2, rfl⟩ := inR_nat (a := 1) (b := 201) h1 (by decide) (by decide)
  have ec : (nI i).toNatClampNeg = i := n_cl
  rw [ec]
  refine ⟨n_in (by omega), fun h2 => hno (fun j j1 j2 hj => Or.inl ?_), fun h2 => s_in (fun h3 => df (by decide) ?_) (fun h3 => dt rfl (hno (fun _ _ _ _ => Or.inr h3)))⟩
  · have : i = j := (nI_eq (by omega) (by omega)).mp hj
    rw [← this]; exact h2
  · obtain ⟨y, -, y2, rfl⟩ := inR_nat (a := 0) (b := 1023) h3 (by decide) (by decide)
    have ed : (nI (16 * i + y / 64)).toNatClampNeg = 16 * i + y / 64 := n_cl
    rw [m_sh (by omega), m_an (by omega), m16, ed, m_bit]
    exact ⟨n_in (by omega), hyes i y i1 i2 h2 (by omega) rfl rfl⟩
theorem s_mvalue {isT : Int32} {told : FL} {x : Int32} {k : Int32 → Prop} (hT : isT ≠ 0) (hno : ¬ inR x 0 1023 → k (-1))
    (hyes : ∀ y, y < 1024 → x = nI y → k (b01 (bL (told (y / 64)) (y % 64)))) : p_M_value isT told x k := by
  unfold p_M_value
  refine cf hT (s_in (fun h3 => cf (by decide) ?_) (fun h3 => ct rfl (hno h3)))
  obtain ⟨y, -, y2, rfl⟩ := inR_nat (a := 0) (b := 1023) h3 (by decide) (by decide)
  have ed : (nI (y / 64)).toNatClampNeg = y / 64 := n_cl
  rw [m_sh (by omega), m_an (by omega), ed, m_bit]
  exact ⟨n_in (by omega), hyes y (by omega) rfl⟩
theorem inR_y {y : Nat} (h : y < 1024) : inR (nI y) 0 1023 := ⟨n_nlt (b := 0) (Nat.zero_le _), n_nlt (a := 1023) (by omega)⟩
section AN
variable {root size isT nodes : Int32} {words kept told : FL} {known had var low high num nod nv nl nh : FF}
theorem s_value {x : Int32} {K : Int32 → Int32 → Prop} (h : RA root words known size var low high num nod isT nodes kept had told nv nl nh) (hk : ∀ r, K r r) : p_B_value root words known x (fun r => p_M_value isT told x (fun r' => K r r')) := by
  unfold p_B_value
  rcases h with ⟨rfl, rfl, rfl, hz⟩ | ⟨e, g, N, V, L, H, e1, e2, g1, rfl, rfl, rfl, rfl, a1, a2, a3, a4, a5, -⟩
  · unfold p_A_truth p_M_value
    exact ct (by decide) (ct rfl (hk _))
  · refine s_truth (fun h => ?_) (fun i y i1 i2 hi hy ei ey => ?_)
    · have h3 : ¬ inR x 0 1023 := by
        rcases h e e1 e2 rfl with q | q
        · exact absurd q a3
        · exact q
      exact s_mvalue (by decide) (fun _ => hk _) (fun y hy ey => absurd (by rw [ey]; exact inR_y hy) h3)
    · have : e = i := (nI_eq (by omega) (by omega)).mp ei
      subst this
      subst ey
      refine s_mvalue (by decide) (fun q => absurd (inR_y hy) q) (fun z hz ez => ?_)
      have : y = z := (nI_eq (by omega) (by omega)).mp ez
      subst this
      rw [a5 (y / 64) (by omega)]
      exact hk _
theorem s_prt {x1 x2 : Int32} {K : Int32 → Int32 → Prop} (h : RA root words known size var low high num nod isT nodes kept had told nv nl nh) (hk : ∀ r, K r r) : p_B_prt words known x1 x2 (fun r => p_M_prt isT kept had x1 x2 (fun r' => K r r')) := by
  unfold p_B_prt
  rcases h with ⟨rfl, rfl, rfl, hz⟩ | ⟨e, g, N, V, L, H, e1, e2, g1, rfl, rfl, rfl, rfl, a1, a2, a3, a4, a5, -⟩
  · refine s_truth (fun _ => ?_) (fun i y i1 i2 hi hy ei ey => absurd (hz i (by omega)) hi)
    unfold p_M_prt
    exact ct rfl (hk _)
  · refine s_truth (fun h => ?_) (fun i y i1 i2 hi hy ei ey => ?_)
    · refine s_mprt (by decide) (fun _ => hk _) (fun i y i1 i2 hi hy ei ey => ?_)
      have hi2 : i ≤ 200 := by
        rcases Nat.lt_or_ge 200 i with q | q
        · have : i = 201 := by omega
          subst this; exact absurd a2 hi
        · exact q
      rcases h i i1 hi2 ei with q | q
      · rw [a1 i i1 hi2] at q; exact absurd q hi
      · exact absurd (by rw [ey]; exact inR_y hy) q
    · subst ei
      subst ey
      refine s_mprt (by decide) (fun q => ?_) (fun i' y' i1' i2' hi' hy' ei' ey' => ?_)
      · rcases q i i1 (by omega) rfl with q | q
        · rw [a1 i i1 i2] at hi; exact absurd q hi
        · exact absurd (inR_y hy) q
      · have : i = i' := (nI_eq (by omega) (by omega)).mp ei'
        subst this
        have : y = y' := (nI_eq (by omega) (by omega)).mp ey'
        subst this
        unfold tbl
        rw [a4 i i1 i2 hi (y / 64) (by omega)]
        exact hk _
/-! told -/
def tsum (A : Nat → Int64) : Nat → Int32 → Nat → Int32
  | 0, x, _ => x
  | d + 1, x, w => tsum A d (x + nI (pc (A w))) (w + 1)
theorem l_tv {e : Nat} {A : Nat → Int64} {k : Int32 → Prop} (he : e ≤ 200) (hA : ∀ w, w < 16 → words (16 * e + w) = A w) : ∀ (d w : Nat) (s : Int32), d + w = 16 → k (tsum A d s w) → p_A_trueValuations_L4 (nI e) words k (d + 1) s (nI w)
  | 0, w, s, hd, hk => by
    have : w = 16 := by omega
    subst this
    unfold p_A_trueValuations_L4
    exact ct (by decide) hk
  | d + 1, w, s, hd, hk => by
    unfold tsum at hk
    have go := l_tv he hA d (w + 1) _ (by omega) hk
    have em : nI e * (16 : Int32) + nI w = nI (16 * e + w) := by rw [show (16 : Int32) = nI 16 from rfl, pk_mul, Nat.mul_comm, nI_add]
    have ec : (nI (16 * e + w)).toNatClampNeg = 16 * e + w := n_cl
    unfold p_A_trueValuations_L4
    rw [em, ec, n_p1 w, hA w (by omega)]
    exact cf (n_nle (a := 16) (by omega)) ⟨n_in (by omega), s_bitCount go⟩
theorem l_mtv {A : Nat → Int64} {k : Int32 → Prop} (hA : ∀ w, w < 16 → told w = A w) : ∀ (d w : Nat) (s : Int32), d + w = 16 → k (tsum A d s w) → p_M_told_L17 told k (d + 1) s (nI w)
  | 0, w, s, hd, hk => by
    have : w = 16 := by omega
    subst this
    unfold p_M_told_L17
    exact ct (by decide) hk
  | d + 1, w, s, hd, hk => by
    unfold tsum at hk
    have go := l_mtv hA d (w + 1) _ (by omega) hk
    have ec : (nI w).toNatClampNeg = w := n_cl
    unfold p_M_told_L17
    rw [ec, n_p1 w, hA w (by omega)]
    exact cf (n_nle (a := 16) (by omega)) ⟨n_in (by omega), s_ones go⟩
def bw (x : Int32) : Int32 := (1 : Int32) <<< ((x - 1) &&& 31)
def ors (f : FF) : Nat → Int32
  | 0 => 0
  | m + 1 => ors f m ||| bw (f m)
theorem ors_in {f : FF} : ∀ (m i : Nat), i < m → ors f m ||| bw (f i) = ors f m
  | 0, i, h => absurd h (Nat.not_lt_zero i)
  | m + 1, i, h => by
    show (ors f m ||| bw (f m)) ||| bw (f i) = ors f m ||| bw (f m)
    by_cases z : i = m
    · rw [z, Int32.or_assoc, Int32.or_self]
    · rw [Int32.or_assoc, Int32.or_comm (bw (f m)), ← Int32.or_assoc, ors_in m i (by omega)]
theorem ors_le {f : FF} {X : Int32} : ∀ m, (∀ i, i < m → X ||| bw (f i) = X) → X ||| ors f m = X
  | 0, _ => Int32.or_zero
  | m + 1, h => by
    show X ||| (ors f m ||| bw (f m)) = X
    rw [← Int32.or_assoc, ors_le m (fun i hi => h i (by omega)), h m (by omega)]
theorem ors_eq {f h : FF} {g : Nat} (a : ∀ i, i < g → ∃ j, j < g ∧ f i = h j) (b : ∀ j, j < g → ∃ i, i < g ∧ h j = f i) : ors f g = ors h g := by
  have p : ors f g ||| ors h g = ors f g := ors_le g (fun j hj => by
    obtain ⟨i, hi, e⟩ := b j hj
    rw [e]; exact ors_in g i hi)
  have q : ors h g ||| ors f g = ors h g := ors_le g (fun j hj => by
    obtain ⟨i, hi, e⟩ := a j hj
    rw [e]; exact ors_in g i hi)
  rw [← p, Int32.or_comm, q]
theorem l_sup {g : Nat} {k : Int32 → Prop} (hg : g ≤ 269) (hk : k (ors var g)) : ∀ (d i : Nat), d + i = g → p_G_support_L4 (nI g) var k (d + 1) (ors var i) (nI i)
  | 0, i, hd => by
    have : i = g := by omega
    subst this
    unfold p_G_support_L4
    exact ct (n_le (Nat.le_refl _)) hk
  | d + 1, i, hd => by
    have go := l_sup hg hk d (i + 1) (by omega)
    have ec : (nI i).toNatClampNeg = i := n_cl
    unfold p_G_support_L4 p_B_bitOf
    rw [ec, n_p1 i]
    exact cf (n_nle (by omega)) ⟨n_in (by omega), go⟩
theorem l_msup {g : Nat} {k : Int32 → Prop} (hg : g ≤ 269) (hk : k (ors nv g)) : ∀ (d i : Nat), d + i = g → p_M_told_L52 (nI g) nv k (d + 1) (ors nv i) (nI i)
  | 0, i, hd => by
    have : i = g := by omega
    subst this
    unfold p_M_told_L52
    exact ct (n_le (Nat.le_refl _)) hk
  | d + 1, i, hd => by
    have go := l_msup hg hk d (i + 1) (by omega)
    have ec : (nI i).toNatClampNeg = i := n_cl
    unfold p_M_told_L52
    rw [ec, n_p1 i]
    refine cf (n_nle (by omega)) ⟨n_in (by omega), fun v hv => ?_⟩
    subst hv
    exact go
theorem s_told {x : Int32} {K : Int32 → Int32 → Prop} (h : RA root words known size var low high num nod isT nodes kept had told nv nl nh) (hk : ∀ r, K r r) : p_B_told root words size var x (fun r => p_M_told isT nodes told nv x (fun r' => K r r')) := by
  unfold p_B_told p_M_told
  rcases h with ⟨rfl, rfl, rfl, hz⟩ | ⟨e, g, N, V, L, H, e1, e2, g1, rfl, rfl, rfl, rfl, a1, a2, a3, a4, a5, n1, n2, hA, n3, n4⟩
  · exact dt rfl (dt rfl (hk _))
  · have e0 : ¬ nI e = 0 := n_ne (b := 0) (by omega)
    refine df e0 ⟨fun q => ?_, fun q => ?_, fun q q2 => ?_⟩
    · refine ⟨17, l_tv (A := told) e2 (fun w hw => (a5 w hw).symm) 16 0 0 (by omega) ?_⟩
      exact df (by decide) (dt q ⟨17, l_mtv (A := told) (fun _ _ => rfl) 16 0 0 (by omega) (hk _)⟩)
    · refine ⟨g + 1, l_sup g1 ?_ g 0 (by omega)⟩
      refine df (by decide) (df (by rw [q]; decide) (ct q ⟨g + 1, l_msup g1 ?_ g 0 (by omega)⟩))
      have : ors var g = ors nv g := ors_eq (fun i hi => by
        obtain ⟨j, hj, ej⟩ := n2 i hi
        exact ⟨j, hj, by rw [(n4 j hj).1, ej]; exact (hA i hi).1⟩) (fun j hj => ⟨N j, n1 j hj, by rw [(n4 j hj).1, (hA (N j) (n1 j hj)).1]⟩)
      rw [this]
      exact hk _
    · exact df (by decide) (df q (cf q2 (hk _)))
/-! graph -/
theorem s_sideN {g c : Nat} {N : NN} {r : Int32} {k : Int32 → Prop} (g1 : g ≤ 269) (n1 : ∀ j, j < g → N j < g) (n3 : ∀ j, j < g → nod j = nI (N j) ∧ num (N j) = nI j) (h : NR N g c r) (hk : k r) : p_G_sideNumber num (sd c) k := by
  unfold p_G_sideNumber
  rcases h with ⟨h1, rfl⟩ | ⟨j, j1, rfl, rfl⟩
  · exact cf (fun q => Int32.not_lt.mpr q (sd_neg h1)) hk
  · have := n1 j j1
    have ec : (nI (N j)).toNatClampNeg = N j := n_cl
    rw [sd_2, ec, (n3 j j1).2]
    exact ct (n_le (a := 0) (Nat.zero_le _)) ⟨n_in (by omega), hk⟩
theorem s_graph {x1 x2 : Int32} {K : Int32 → Int32 → Prop} (h : RA root words known size var low high num nod isT nodes kept had told nv nl nh) (hk : ∀ r, K r r) : p_B_graph size var low high num nod x1 x2 (fun r => p_M_graph isT nodes nv nl nh x1 x2 (fun r' => K r r')) := by
  unfold p_B_graph p_G_tell p_M_graph
  rcases h with ⟨rfl, rfl, rfl, hz⟩ | ⟨e, g, N, V, L, H, e1, e2, g1, rfl, rfl, rfl, rfl, a1, a2, a3, a4, a5, n1, n2, hA, n3, n4⟩
  · exact ⟨fun _ => ct rfl (hk _), fun q => cf q (ct rfl (hk _))⟩
  · by_cases hj : ∃ j, j < g ∧ x1 = nI j
    · obtain ⟨j, j1, rfl⟩ := hj
      have hN := n1 j j1
      have ec : (nI j).toNatClampNeg = j := n_cl
      have ed : (nI (N j)).toNatClampNeg = N j := n_cl
      obtain ⟨b1, b2, b3⟩ := hA (N j) hN
      obtain ⟨c1, c2, c3⟩ := n4 j j1
      have hin : ∀ {P : Int32 → Prop}, P 1 → p_M_in (nI j) 0 (nI g - 1) P := fun {P} hP => by
        obtain ⟨q, rfl⟩ : ∃ q, g = q + 1 := ⟨g - 1, by omega⟩
        rw [nI_pred]
        exact s_in (fun _ => hP) (fun z => absurd ⟨n_nlt (b := 0) (Nat.zero_le _), n_nlt (by omega)⟩ z)
      rw [ec, (n3 j j1).1, ed, b1, b2, b3]
      refine cf (n_nlt (b := 0) (Nat.zero_le _)) (ct (n_lt j1) ⟨n_in (by omega), fun q => ⟨n_in (by omega), ?_⟩, fun q => ⟨n_in (by omega), s_sideN g1 n1 n3 c2 ?_⟩, fun q => ⟨n_in (by omega), s_sideN g1 n1 n3 c3 ?_⟩, fun q1 q2 q3 => ?_⟩)
      · refine cf (by decide) (hin (df (by decide) (dt q ⟨n_in (by omega), ?_⟩)))
        rw [c1]; exact hk _
      · exact cf (by decide) (hin (df (by decide) (df (by rw [q]; decide) (dt q ⟨n_in (by omega), hk _⟩))))
      · exact cf (by decide) (hin (df (by decide) (df (by rw [q]; decide) (df (by rw [q]; decide) (dt q ⟨n_in (by omega), hk _⟩)))))
      · exact cf (by decide) (hin (df (by decide) (df q1 (df q2 (df q3 (hk _))))))
    · have hin : ∀ {P : Int32 → Prop}, P 0 → p_M_in x1 0 (nI g - 1) P := fun {P} hP => s_in (fun z => by
        rcases Nat.eq_zero_or_pos g with q | q
        · subst q
          have e1 : ((nI 0 : Int32) - 1).toInt = -1 := by decide
          have e0 : (0 : Int32).toInt = 0 := by decide
          have h1 := mt i_toInt_lt.mpr z.1
          have h2 := mt i_toInt_lt.mpr z.2
          rw [e1] at h2
          rw [e0] at h1
          omega
        · obtain ⟨q, rfl⟩ : ∃ q, g = q + 1 := ⟨g - 1, by omega⟩
          rw [nI_pred] at z
          obtain ⟨j, -, j2, ej⟩ := inR_nat (a := 0) z (by decide) (by omega)
          exact absurd ⟨j, by omega, ej⟩ hj) (fun _ => hP)
      refine ⟨fun _ => cf (by decide) (hin (dt rfl (hk _))), fun q => ⟨fun q2 => ?_, fun _ => cf (by decide) (hin (dt rfl (hk _)))⟩⟩
      have h1 := mt i_toInt_lt.mpr q
      have h2 := i_toInt_lt.mp q2
      have e0 : (0 : Int32).toInt = 0 := by decide
      rw [e0] at h1
      rw [nI_toInt (by omega)] at h2
      exact absurd ⟨x1.toInt.toNat, by omega, i_ofN (by omega)⟩ hj
end AN

/-! PURE: decision graphs -/
def sd (c : Nat) : Int32 := if c = 0 then -2 else if c = 1 then -3 else nI (c - 2)
theorem sd_0 : sd 0 = -2 := rfl
theorem sd_1 : sd 1 = -3 := rfl
theorem sd_2 (i : Nat) : sd (i + 2) = nI i := by unfold sd; rw [if_neg (by omega), if_neg (by omega)]; rfl
theorem sd_toInt {c : Nat} (h : c < 2 ^ 30) : (sd c).toInt = if c = 0 then -2 else if c = 1 then -3 else (c : Int) - 2 := by
  unfold sd
  by_cases h0 : c = 0
  · rw [if_pos h0, if_pos h0]; decide
  · rw [if_neg h0, if_neg h0]
    by_cases h1 : c = 1
    · rw [if_pos h1, if_pos h1]; decide
    · rw [if_neg h1, if_neg h1, nI_toInt (by omega)]; omega
theorem sd_inj {c d : Nat} (hc : c < 2 ^ 30) (hd : d < 2 ^ 30) (h : sd c = sd d) : c = d := by
  have h2 : (sd c).toInt = (sd d).toInt := by rw [h]
  rw [sd_toInt hc, sd_toInt hd] at h2
  by_cases c0 : c = 0
  · rw [if_pos c0] at h2
    by_cases d0 : d = 0
    · omega
    · rw [if_neg d0] at h2
      by_cases d1 : d = 1
      · rw [if_pos d1] at h2; omega
      · rw [if_neg d1] at h2; omega
  · rw [if_neg c0] at h2
    by_cases c1 : c = 1
    · rw [if_pos c1] at h2
      by_cases d0 : d = 0
      · rw [if_pos d0] at h2; omega
      · rw [if_neg d0] at h2
        by_cases d1 : d = 1
        · omega
        · rw [if_neg d1] at h2; omega
    · rw [if_neg c1] at h2
      by_cases d0 : d = 0
      · rw [if_pos d0] at h2; omega
      · rw [if_neg d0] at h2
        by_cases d1 : d = 1
        · rw [if_pos d1] at h2; omega
        · rw [if_neg d1] at h2; omega
abbrev NN : Type := Nat → Nat
abbrev NB : Type := Nat → Nat → Bool
def lev (V : NN) (c : Nat) : Nat := if c < 2 then 11 else V (c - 2)
theorem lev_2 (V : NN) (i : Nat) : lev V (i + 2) = V i := by unfold lev; rw [if_neg (by omega)]; rfl
def nodeF (F : NB) (u l h : Nat) (x : Nat) : Bool := if x.testBit u = true then F h x else F l x
def ND (V L H : NN) (F : NB) (i : Nat) : Prop := 1 ≤ V i ∧ V i ≤ 10 ∧ L i < i + 2 ∧ H i < i + 2 ∧ L i ≠ H i ∧ V i < lev V (L i) ∧ V i < lev V (H i) ∧ ∀ x, F (i + 2) x = nodeF F (V i - 1) (L i) (H i) x
def IV (g : Nat) (V L H : NN) (F : NB) : Prop := (∀ x, F 0 x = false) ∧ (∀ x, F 1 x = true) ∧ (∀ i, i < g → ND V L H F i) ∧ ∀ c d, c < g + 2 → d < g + 2 → (∀ x, x < 1024 → F c x = F d x) → c = d
def AR (g : Nat) (V L H : NN) (var low high : FF) : Prop := ∀ i, i < g → var i = nI (V i) ∧ low i = sd (L i) ∧ high i = sd (H i)
def uN (f : NN) (k x : Nat) : NN := fun j => if j = k then x else f j
theorem uN_s {f : NN} {k x : Nat} : uN f k x k = x := if_pos rfl
theorem uN_n {f : NN} {k x j : Nat} (h : j ≠ k) : uN f k x j = f j := if_neg h
section GR
variable {g : Nat} {V L H : NN} {F : NB}
theorem indep (hI : IV g V L H F) : ∀ (m c : Nat), c ≤ m → c < g + 2 → ∀ x y : Nat, (∀ b, lev V c ≤ b + 1 → x.testBit b = y.testBit b) → F c x = F c y
  | m, 0, _, _, x, y, _ => by rw [hI.1, hI.1]
  | m, 1, _, _, x, y, _ => by rw [hI.2.1, hI.2.1]
  | 0, c + 2, h, _, _, _, _ => by omega
  | m + 1, i + 2, h, hc, x, y, hb => by
    obtain ⟨v1, v2, lo, hi, ne, ll, lh, ff⟩ := hI.2.2.1 i (by omega)
    rw [lev_2] at hb
    rw [ff, ff]
    unfold nodeF
    rw [hb (V i - 1) (by omega), indep hI m (L i) (by omega) (by omega) x y (fun b q => hb b (by omega)), indep hI m (H i) (by omega) (by omega) x y (fun b q => hb b (by omega))]
theorem ind_put (hI : IV g V L H F) {c u : Nat} (hc : c < g + 2) (hl : u + 1 < lev V c) (s : Bool) (x : Nat) : F c (put u s x) = F c x :=
  indep hI c c (Nat.le_refl _) hc _ _ (fun b q => by rw [put_bit, if_neg (by omega)])
theorem cof0 (hI : IV g V L H F) {l h u : Nat} (hl : l < g + 2) (ll : u + 1 < lev V l) (x : Nat) : nodeF F u l h (put u false x) = F l x := by
  unfold nodeF
  rw [put_bit, if_pos rfl, if_neg (by decide), ind_put hI hl ll]
theorem cof1 (hI : IV g V L H F) {l h u : Nat} (hh : h < g + 2) (lh : u + 1 < lev V h) (x : Nat) : nodeF F u l h (put u true x) = F h x := by
  unfold nodeF
  rw [put_bit, if_pos rfl, if_pos rfl, ind_put hI hh lh]
/-- the two sides of a node that is there -/
theorem side0 (hI : IV g V L H F) {i : Nat} (hi : i < g) (x : Nat) : F (i + 2) (put (V i - 1) false x) = F (L i) x := by
  obtain ⟨v1, v2, lo, hi', ne, ll, lh, ff⟩ := hI.2.2.1 i hi
  rw [ff]; exact cof0 hI (by omega) (by omega) x
theorem side1 (hI : IV g V L H F) {i : Nat} (hi : i < g) (x : Nat) : F (i + 2) (put (V i - 1) true x) = F (H i) x := by
  obtain ⟨v1, v2, lo, hi', ne, ll, lh, ff⟩ := hI.2.2.1 i hi
  rw [ff]; exact cof1 hI (by omega) (by omega) x
/-- a new node -/
theorem IV.add (hI : IV g V L H F) {u l h : Nat} (hu : u < 10) (hl : l < g + 2) (hh : h < g + 2) (ne : l ≠ h) (ll : u + 1 < lev V l) (lh : u + 1 < lev V h)
    (hV : ∀ i, i < g → u + 1 ≤ V i) (hs : ∀ i, i < g → V i = u + 1 → ¬ (L i = l ∧ H i = h)) :
    IV (g + 1) (uN V g (u + 1)) (uN L g l) (uN H g h) (fun c => if c = g + 2 then nodeF F u l h else F c) := by
  have hF : ∀ c, c < g + 2 → (fun c => if c = g + 2 then nodeF F u l h else F c) c = F c := fun c hc => if_neg (by omega)
  have hFn : (fun c => if c = g + 2 then nodeF F u l h else F c) (g + 2) = nodeF F u l h := if_pos rfl
  generalize (fun c => if c = g + 2 then nodeF F u l h else F c) = F' at *
  have hlv : ∀ c, c < g + 2 → lev (uN V g (u + 1)) c = lev V c := fun c hc => by
    unfold lev
    by_cases q : c < 2
    · rw [if_pos q, if_pos q]
    · rw [if_neg q, if_neg q, uN_n (by omega)]
  have key : ∀ d, d < g + 2 → ¬ ∀ x, x < 1024 → nodeF F u l h x = F d x := fun d hd q => by
    by_cases hd2 : u + 1 < lev V d
    · refine ne (hI.2.2.2 l h hl hh (fun x hx => ?_))
      rw [← cof0 hI (h := h) hl ll x, ← cof1 hI (l := l) hh lh x, q _ (put_lt hu hx), q _ (put_lt hu hx), ind_put hI hd hd2, ind_put hI hd hd2]
    · rcases Nat.lt_or_ge d 2 with z | z
      · unfold lev at hd2; rw [if_pos z] at hd2; omega
      · obtain ⟨i, rfl⟩ : ∃ i, d = i + 2 := ⟨d - 2, by omega⟩
        rw [lev_2] at hd2
        have hi : i < g := by omega
        have hVi : V i = u + 1 := by have := hV i hi; omega
        obtain ⟨v1, v2, lo, hi', ne', ll', lh', ff⟩ := hI.2.2.1 i hi
        refine hs i hi hVi ⟨hI.2.2.2 _ _ (by omega) hl (fun x hx => ?_), hI.2.2.2 _ _ (by omega) hh (fun x hx => ?_)⟩
        · rw [← side0 hI hi x, hVi, ← cof0 hI (h := h) hl ll x]
          exact (q _ (put_lt hu hx)).symm
        · rw [← side1 hI hi x, hVi, ← cof1 hI (l := l) hh lh x]
          exact (q _ (put_lt hu hx)).symm
  refine ⟨fun x => by rw [hF 0 (by omega)]; exact hI.1 x, fun x => by rw [hF 1 (by omega)]; exact hI.2.1 x, fun i hi => ?_, fun c d hc hd q => ?_⟩
  · rcases Nat.lt_or_ge i g with z | z
    · obtain ⟨v1, v2, lo, hi', ne', ll', lh', ff⟩ := hI.2.2.1 i z
      unfold ND
      rw [uN_n (by omega), uN_n (by omega), uN_n (by omega), hlv _ (by omega), hlv _ (by omega)]
      refine ⟨v1, v2, lo, hi', ne', ll', lh', fun x => ?_⟩
      unfold nodeF
      rw [hF _ (by omega), hF _ (by omega), hF _ (by omega)]
      exact ff x
    · have : i = g := by omega
      subst this
      unfold ND
      rw [uN_s, uN_s, uN_s, hlv _ hl, hlv _ hh]
      refine ⟨by omega, by omega, hl, hh, ne, ll, lh, fun x => ?_⟩
      rw [hFn]
      unfold nodeF
      rw [hF _ hl, hF _ hh]; rfl
  · rcases Nat.lt_or_ge c (g + 2) with z | z <;> rcases Nat.lt_or_ge d (g + 2) with y | y
    · exact hI.2.2.2 c d z y (fun x hx => by have := q x hx; rw [hF c z, hF d y] at this; exact this)
    · have : d = g + 2 := by omega
      subst this
      exact absurd (fun x hx => by have := q x hx; rw [hF c z, hFn] at this; exact this.symm) (key c z)
    · have : c = g + 2 := by omega
      subst this
      exact absurd (fun x hx => by have := q x hx; rw [hF d y, hFn] at this; exact this) (key d y)
    · omega
/-! joining -/
theorem l_join {st l h : Nat} {var low high num : FF} {k : Int32 → Int32 → FF → FF → FF → FF → Prop} {k51 : Prop} (hg : g ≤ 269) (hA : AR g V L H var low high) (hb : ∀ i, i < g → L i < 300 ∧ H i < 300) (hl : l < 300) (hh : h < 300)
    (hf : ∀ i, st ≤ i → i < g → L i = l → H i = h → k (nI i) (nI g) var low high num) (hn : (∀ i, st ≤ i → i < g → ¬ (L i = l ∧ H i = h)) → k51) : ∀ (d i : Nat), d + i = g → st ≤ i → (∀ j, st ≤ j → j < i → ¬ (L j = l ∧ H j = h)) → p_G_join_L11 (nI g) var low high num (sd l) (sd h) k k51 (d + 1) (nI i)
  | 0, i, hd, hi, hj => by
    have : i = g := by omega
    subst this
    unfold p_G_join_L11
    exact ct (n_le (Nat.le_refl _)) (hn hj)
  | d + 1, i, hd, hi, hj => by
    obtain ⟨-, a2, a3⟩ := hA i (by omega)
    obtain ⟨b2, b3⟩ := hb i (by omega)
    have ec : (nI i).toNatClampNeg = i := n_cl
    unfold p_G_join_L11
    rw [ec, a2, a3, n_p1]
    have next : ¬ (L i = l ∧ H i = h) → p_G_join_L11 (nI g) var low high num (sd l) (sd h) k k51 (d + 1) (nI (i + 1)) := fun q =>
      l_join hg hA hb hl hh hf hn d (i + 1) (by omega) (by omega) (fun j j1 j2 => by
        by_cases z : j = i
        · rw [z]; exact q
        · exact hj j j1 (by omega))
    refine cf (n_nle (by omega)) ⟨n_in (by omega), fun q => next (fun z => q (by rw [z.1])), fun q => ⟨fun q2 => next (fun z => q2 (by rw [z.2])), fun q2 => hf i hi (by omega) (sd_inj (by omega) (by omega) q) (sd_inj (by omega) (by omega) q2)⟩⟩
theorem s_join {u l h st : Nat} {var low high num : FF} {k : Int32 → Int32 → FF → FF → FF → FF → Prop} (hI : IV g V L H F) (hA : AR g V L H var low high) (hg : g < 269) (hm : ∀ i, i < g → num i = -1)
    (hu : u < 10) (hst : st ≤ g) (hlv : ∀ i, i < g → (i < st → u + 1 < V i) ∧ (st ≤ i → V i = u + 1)) (hl : l < g + 2) (hh : h < g + 2) (ll : u + 1 < lev V l) (lh : u + 1 < lev V h)
    (hk : ∀ (g' : Nat) (V' L' H' : NN) (F' : NB) (var' low' high' num' : FF) (c : Nat), IV g' V' L' H' F' → AR g' V' L' H' var' low' high' → (∀ i, i < g' → num' i = -1) → g ≤ g' → g' ≤ g + 1 → (∀ i, i < g → V' i = V i ∧ L' i = L i ∧ H' i = H i) → (∀ d, d < g + 2 → F' d = F d) →
      (∀ i, g ≤ i → i < g' → V' i = u + 1) → c < g' + 2 → u + 1 ≤ lev V' c → (∀ x, F' c x = nodeF F u l h x) → ((l = h ∧ c = l ∧ g' = g) ∨ (∃ i, c = i + 2 ∧ i < g' ∧ L' i = l ∧ H' i = h ∧ (∀ j, g ≤ j → j < g' → j = i))) → k (sd c) (nI g') var' low' high' num') :
    p_G_join (nI g) var low high num (nI (u + 1)) (sd l) (sd h) (nI st) k := by
  have hb : ∀ i, i < g → L i < 300 ∧ H i < 300 := fun i hi => by obtain ⟨_, _, lo, hi', _⟩ := hI.2.2.1 i hi; omega
  unfold p_G_join
  refine ⟨fun q => ⟨(g - st) + 1, ?_⟩, fun q => ?_⟩
  · have ne : l ≠ h := fun z => q (by rw [z])
    refine l_join (by omega) hA hb (by omega) (by omega) (fun i i1 i2 e1 e2 => ?_) (fun hs => ?_) (g - st) st (by omega) (Nat.le_refl _) (fun j a b => by omega)
    · have := hk g V L H F var low high num (i + 2) hI hA hm (Nat.le_refl _) (by omega) (fun _ _ => ⟨rfl, rfl, rfl⟩) (fun _ _ => rfl) (fun j a b => by omega) (by omega) (by rw [lev_2, (hlv i i2).2 i1]; exact Nat.le_refl _) (fun x => ?_) (Or.inr ⟨i, rfl, i2, e1, e2, fun j a b => by omega⟩)
      · rw [sd_2] at this; exact this
      · obtain ⟨_, _, _, _, _, _, _, ff⟩ := hI.2.2.1 i i2
        rw [ff, (hlv i i2).2 i1, e1, e2]; rfl
    · have ec : (nI g).toNatClampNeg = g := n_cl
      rw [ec, n_p1, nI_pred]
      refine ct (n_lt (b := 269) hg) ⟨n_in (by omega), ?_⟩
      have hI' := hI.add hu hl hh ne ll lh (fun i hi => by
        rcases Nat.lt_or_ge i st with z | z
        · have := (hlv i hi).1 z; omega
        · have := (hlv i hi).2 z; omega) (fun i hi hv => by
        rcases Nat.lt_or_ge i st with z | z
        · have := (hlv i hi).1 z; omega
        · exact hs i z hi)
      have := hk (g + 1) _ _ _ _ (upd var g (nI (u + 1))) (upd low g (sd l)) (upd high g (sd h)) (upd num g (-1)) (g + 2) hI' (fun i hi => ?_) (fun i hi => ?_) (by omega) (by omega) (fun i hi => ⟨uN_n (by omega), uN_n (by omega), uN_n (by omega)⟩) (fun d hd => if_neg (by omega)) (fun i a b => by rw [show i = g by omega, uN_s]) (by omega) (by rw [lev_2, uN_s]; exact Nat.le_refl _) (fun x => by rw [if_pos rfl]) (Or.inr ⟨g, rfl, by omega, uN_s, uN_s, fun j a b => by omega⟩)
      · rw [sd_2] at this; exact this
      · by_cases z : i = g
        · rw [z, upd_s, upd_s, upd_s, uN_s, uN_s, uN_s]; exact ⟨rfl, rfl, rfl⟩
        · rw [upd_n z, upd_n z, upd_n z, uN_n z, uN_n z, uN_n z]; exact hA i (by omega)
      · by_cases z : i = g
        · rw [z, upd_s]
        · rw [upd_n z]; exact hm i (by omega)
  · have e : l = h := sd_inj (by omega) (by omega) q
    exact hk g V L H F var low high num l hI hA hm (Nat.le_refl _) (by omega) (fun _ _ => ⟨rfl, rfl, rfl⟩) (fun _ _ => rfl) (fun j a b => by omega) hl (by omega) (fun x => by unfold nodeF; rw [← e]; cases x.testBit u <;> rfl) (Or.inl ⟨e, rfl, rfl⟩)
end GR

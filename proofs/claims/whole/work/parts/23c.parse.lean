/-! PURE: reading, both sides together -/
def OKs (n0 : Nat) (t0 s t : CS) (g : Nat) : Prop := EQs s t ∧ BH n0 t0 t ∧ g ≤ 60
def kC (k : K22) (kd pl : Int32) (s : CS) (g : Nat) : Prop := ∀ a b c d e f h i j l m, k (nI s.1) (nI g) (cB s) (cL s) (cR s) (cV s) (cP s) (cN s) (cX s) kd pl a b c d e f h i j l m
def kM (k : K15) (kd pl : Int32) (t : CS) (g : Nat) : Prop := ∀ a b c d, k (nI t.1) (nI g) a b c d kd pl (cP t) (cN t) (cB t) (cL t) (cR t) (cV t) (cX t)
def CR (n : Nat) (tb : FF) (st c : Int32) (at' to : Nat) (w b P N l r v : Int32) (s : CS) (g : Nat) (kd pl : Int32) (s' : CS) (g' : Nat) : Prop :=
  ∀ (k : K22) (F x : Nat) (num : Int32), kC k kd pl s' g' → 1 ≤ F ∧ (c = -1 ∨ n + 3 ≤ F + to) → x ≤ at' → (c = -2 → num = w) →
    p_R_takeToken (nI s.1) (nI g) (cB s) (cL s) (cR s) (cV s) (cP s) (cN s) (cX s) 0 (-1) c (nI at') num st b P N l r v (fun a1 a2 a3 a4 a5 a6 a7 a8 a9 kd pl st' b' P' N' l' r' v' => p_R_readText_L35 (nI n) tb k F (nI (x + 1)) a1 a2 a3 a4 a5 a6 a7 a8 a9 kd pl (nI to) c (nI at') num st' b' P' N' l' r' v')
def FU (n : Nat) (c : Int32) (to F : Nat) : Prop := 1 ≤ F ∧ (c = -1 ∨ n + 2 ≤ F + to)
/-- the reference's points -/
def MT0 (n : Nat) (mb : FF) (k99 : K15) (F : Nat) (c : Int32) (at' to : Nat) (wo : Int32) (t : CS) (g : Nat) : Prop := p_M_read_L42 (nI n) mb k99 F (nI t.1) (nI g) (nI at') (nI to) (ms c) wo 0 (-1) (cP t) (cN t) (cB t) (cL t) (cR t) (cV t) (cX t)
def MT1 (n : Nat) (mb : FF) (k99 : K15) (F : Nat) (c : Int32) (at' to : Nat) (wo : Int32) (t : CS) (g : Nat) : Prop :=
  ((¬ ms c = 1 → p_M_readGiven_J52 (nI n) mb (p_M_read_L42 (nI n) mb k99 F) 0 (nI t.1) (nI g) (nI at') (nI to) (ms c) wo 0 (-1) (cP t) (cN t) (cB t) (cL t) (cR t) (cV t) (cX t)) ∧ (ms c = 1 → p_M_readGiven_J52 (nI n) mb (p_M_read_L42 (nI n) mb k99 F) 1 (nI t.1) (nI g) (nI at') (nI to) (ms c) wo 0 (-1) (cP t) (cN t) (cB t) (cL t) (cR t) (cV t) (cX t)))
def K265 (n : Nat) (mb : FF) (kk : K15) (b : Int32) (t : CS) (g : Nat) : Int32 → Int32 → Int32 → Int32 → Int32 → Int32 → Int32 → Int32 → Prop := fun x2 x3 a1 a2 a3 a4 fk fp =>
  p_M_takes (nI n) a1 a2 a3 a4 fk fp mb 59 (fun r a1 a2 a3 a4 fk fp => ((r = 0 → kk (nI t.1) (nI g) a1 a2 a3 a4 fk fp (cP t) (cN t) (cB t) (cL t) (cR t) (cV t) (cX t)) ∧ (¬ r = 0 → p_M_add (nI t.1) (nI g) (cP t) (cN t) (cB t) (cL t) (cR t) (cV t) (cX t) x2 x3 b 0 0 0 (fun c1 c2 f1 f2 f3 f4 f5 f6 f7 => kk c1 c2 a1 a2 a3 a4 fk fp f1 f2 f3 f4 f5 f6 f7))))
def MT2 (n : Nat) (mb : FF) (k99 : K15) (F : Nat) (c : Int32) (at' to : Nat) (wo b : Int32) (t : CS) (g : Nat) : Prop :=
  p_M_takes (nI n) (nI at') (nI to) (ms c) wo 0 (-1) mb 58 (fun r a1 a2 a3 a4 fk fp => ((¬ r = 0 → ∃ j, p_M_readGiven_L113 (nI t.1) (nI g) (nI n) (cP t) (cN t) (cB t) (cL t) (cR t) (cV t) (cX t) mb b (p_M_read_L42 (nI n) mb k99 F) (K265 n mb (p_M_read_L42 (nI n) mb k99 F) b t g) j 0 0 a1 a2 a3 a4 fk fp) ∧ (r = 0 → p_M_read_L42 (nI n) mb k99 F (nI t.1) (nI g) a1 a2 a3 a4 fk fp (cP t) (cN t) (cB t) (cL t) (cR t) (cV t) (cX t))))
def MT3 (n : Nat) (mb : FF) (k99 : K15) (F F3 : Nat) (c : Int32) (at' to : Nat) (wo b P N : Int32) (t : CS) (g : Nat) : Prop :=
  p_M_readGiven_L113 (nI t.1) (nI g) (nI n) (cP t) (cN t) (cB t) (cL t) (cR t) (cV t) (cX t) mb b (p_M_read_L42 (nI n) mb k99 F) (K265 n mb (p_M_read_L42 (nI n) mb k99 F) b t g) F3 P N (nI at') (nI to) (ms c) wo 0 (-1)
def MT4 (n : Nat) (mb : FF) (k99 : K15) (F F3 : Nat) (is c : Int32) (at' to : Nat) (wo b P N : Int32) (t : CS) (g : Nat) : Prop :=
  p_M_readGiven_J155 (nI n) mb (p_M_read_L42 (nI n) mb k99 F) (p_M_readGiven_L113 (nI t.1) (nI g) (nI n) (cP t) (cN t) (cB t) (cL t) (cR t) (cV t) (cX t) mb b (p_M_read_L42 (nI n) mb k99 F) (K265 n mb (p_M_read_L42 (nI n) mb k99 F) b t g) F3) b P N is (nI t.1) (nI g) (nI at') (nI to) (ms c) wo 0 (-1) (cP t) (cN t) (cB t) (cL t) (cR t) (cV t) (cX t)
def MT7 (n : Nat) (mb : FF) (k99 : K15) (F : Nat) (l r a1 a2 a3 a4 fk fp : Int32) (t : CS) (g : Nat) : Prop :=
  ((¬ a3 = 1 → p_M_readResolvent_J69 (nI n) mb (p_M_read_L42 (nI n) mb k99 F) l r 0 (nI t.1) (nI g) a1 a2 a3 a4 fk fp (cP t) (cN t) (cB t) (cL t) (cR t) (cV t) (cX t)) ∧ (a3 = 1 → p_M_readResolvent_J69 (nI n) mb (p_M_read_L42 (nI n) mb k99 F) l r 1 (nI t.1) (nI g) a1 a2 a3 a4 fk fp (cP t) (cN t) (cB t) (cL t) (cR t) (cV t) (cX t)))
def MT6 (n : Nat) (mb : FF) (k99 : K15) (F : Nat) (l a1 a2 a3 a4 fk fp : Int32) (t : CS) (g : Nat) : Prop :=
  p_M_clauseHere (nI t.1) (nI n) a1 a2 a3 a4 fk fp mb (fun r a1 a2 a3 a4 fk fp => ((fk ≤ 0 → MT7 n mb k99 F l r a1 a2 a3 a4 fk fp t g) ∧ (¬ fk ≤ 0 → p_M_read_L42 (nI n) mb k99 F (nI t.1) (nI g) a1 a2 a3 a4 fk fp (cP t) (cN t) (cB t) (cL t) (cR t) (cV t) (cX t))))
def MT5 (n : Nat) (mb : FF) (k99 : K15) (F : Nat) (a1 a2 a3 a4 fk fp : Int32) (t : CS) (g : Nat) : Prop :=
  p_M_clauseHere (nI t.1) (nI n) a1 a2 a3 a4 fk fp mb (fun l a1 a2 a3 a4 fk fp => ((fk ≤ 0 → MT6 n mb k99 F l a1 a2 a3 a4 fk fp t g) ∧ (¬ fk ≤ 0 → p_M_read_L42 (nI n) mb k99 F (nI t.1) (nI g) a1 a2 a3 a4 fk fp (cP t) (cN t) (cB t) (cL t) (cR t) (cV t) (cX t))))
def MT8 (n : Nat) (mb : FF) (k99 : K15) (F : Nat) (p q l r v c : Int32) (at' to : Nat) (wo : Int32) (t : CS) (g : Nat) : Prop :=
  p_M_takes (nI n) (nI at') (nI to) (ms c) wo 0 (-1) mb 59 (fun rr a1 a2 a3 a4 fk fp => ((rr = 0 → p_M_read_L42 (nI n) mb k99 F (nI t.1) (nI g) a1 a2 a3 a4 fk fp (cP t) (cN t) (cB t) (cL t) (cR t) (cV t) (cX t)) ∧ (¬ rr = 0 → p_M_add (nI t.1) (nI g) (cP t) (cN t) (cB t) (cL t) (cR t) (cV t) (cX t) p q 0 l r v (fun c1 c2 f1 f2 f3 f4 f5 f6 f7 => p_M_read_L42 (nI n) mb k99 F c1 c2 a1 a2 a3 a4 fk fp f1 f2 f3 f4 f5 f6 f7))))
/-- an outcome that both come to -/
def JO (n0 : Nat) (t0 : CS) (A : Int32 → Int32 → CS → Nat → Prop) (M : Int32 → Int32 → CS → Nat → Prop) : Prop := ∃ (kd pl : Int32) (s' t' : CS) (g' : Nat), (kd = 0 ∨ ¬ kd ≤ 0) ∧ OKs n0 t0 s' t' g' ∧ A kd pl s' g' ∧ M kd pl t' g'
section PS
variable {n : Nat} {tb mb : FF} {n0 : Nat} {t0 : CS}
theorem c_flt {k : K22} {F : Nat} {kd pl : Int32} {s : CS} {g : Nat} {x a b c d e f h i j l m : Int32} (hk : kC k kd pl s g) (hF : 1 ≤ F) (hkd : ¬ kd = 0) : p_R_readText_L35 (nI n) tb k F x (nI s.1) (nI g) (cB s) (cL s) (cR s) (cV s) (cP s) (cN s) (cX s) kd pl a b c d e f h i j l m := by
  obtain ⟨F', rfl⟩ : ∃ F', F = F' + 1 := ⟨F - 1, by omega⟩
  unfold p_R_readText_L35
  exact ⟨fun _ => hk _ _ _ _ _ _ _ _ _ _ _, fun _ => df hkd (hk _ _ _ _ _ _ _ _ _ _ _)⟩
theorem c_fin {k : K22} {F : Nat} {pl : Int32} {s : CS} {g : Nat} {x a c d e f h i j l m : Int32} (hk : kC k 0 pl s g) (hF : 1 ≤ F) : p_R_readText_L35 (nI n) tb k F x (nI s.1) (nI g) (cB s) (cL s) (cR s) (cV s) (cP s) (cN s) (cX s) 0 pl a (-1) c d e f h i j l m := by
  obtain ⟨F', rfl⟩ : ∃ F', F = F' + 1 := ⟨F - 1, by omega⟩
  unfold p_R_readText_L35
  exact ⟨fun _ => hk _ _ _ _ _ _ _ _ _ _ _, fun _ => dt rfl (ct rfl (hk _ _ _ _ _ _ _ _ _ _ _))⟩
theorem c_adv {st' c c' kd pl w' b P N l r v num : Int32} {at' to a' t' F x g g2 : Nat} {s s2 : CS} {k : K22} (hn : n ≤ 2000) (hL : Lx n tb mb to c' a' t' w') (hc : c ≠ -1) (hat : at' < to) (hto : to ≤ n) (hR : CR n tb st' c' a' t' w' b P N l r v s g kd pl s2 g2) (hk : kC k kd pl s2 g2) (hF : 1 ≤ F ∧ (c = -1 ∨ n + 3 ≤ F + to)) (hx : x ≤ at') :
    p_R_readText_L35 (nI n) tb k F (nI (x + 1)) (nI s.1) (nI g) (cB s) (cL s) (cR s) (cV s) (cP s) (cN s) (cX s) 0 (-1) (nI to) c (nI at') num st' b P N l r v := by
  obtain ⟨ok', l1, l2, l3, l3', l4, -⟩ := hL
  have hF2 : n + 3 ≤ F + to := hF.2.resolve_left hc
  obtain ⟨F', rfl⟩ : ∃ F', F = F' + 1 := ⟨F - 1, by omega⟩
  unfold p_R_readText_L35
  refine cf (n_nlt (a := 2000) (b := x + 1) (by omega)) (dt rfl (cf hc ?_))
  refine l4 _ _ (fun num' hnum => ?_)
  rw [n_p1]
  refine hR k F' (x + 1) num' hk ⟨by omega, ?_⟩ (by omega) hnum
  by_cases q : c' = -1
  · exact Or.inl q
  · have := l3 q
    exact Or.inr (by omega)
theorem m_flt {k : K15} {F : Nat} {kd pl : Int32} {t : CS} {g : Nat} {a b c d : Int32} (hk : kM k kd pl t g) (hF : 1 ≤ F) (hkd : ¬ kd = 0) : p_M_read_L42 (nI n) mb k F (nI t.1) (nI g) a b c d kd pl (cP t) (cN t) (cB t) (cL t) (cR t) (cV t) (cX t) := by
  obtain ⟨F', rfl⟩ : ∃ F', F = F' + 1 := ⟨F - 1, by omega⟩
  unfold p_M_read_L42
  exact df hkd (hk _ _ _ _)
theorem need1 {a fp x2 : Int32} {k : Int32 → Int32 → Int32 → Prop} (hk : k 1 0 fp) : p_M_need a 0 fp 1 x2 k := by
  unfold p_M_need
  exact dt rfl (df (by decide) (dt rfl hk))
theorem need0 {a fp x2 : Int32} {k : Int32 → Int32 → Int32 → Prop} (hx : ¬ x2 = 0) (hk : k 0 x2 a) : p_M_need a 0 fp 0 x2 k := by
  unfold p_M_need
  exact dt rfl (dt rfl (df hx hk))
/-- 'takes': not that one; that one, and the next -/
theorem takes0 {a1 a2 a3 a4 fp x : Int32} {k : Int32 → Int32 → Int32 → Int32 → Int32 → Int32 → Int32 → Prop} (hx : ¬ a3 = x) (hk : k 0 a1 a2 a3 a4 1 a1) : p_M_takes (nI n) a1 a2 a3 a4 0 fp mb x k := by
  unfold p_M_takes
  exact df hx (need0 (by decide) (dt rfl hk))
theorem takes1 {a1 a3 a4 fp x : Int32} {to : Nat} {c' w' : Int32} {a' t' : Nat} {k : Int32 → Int32 → Int32 → Int32 → Int32 → Int32 → Int32 → Prop} (hx : a3 = x) (hL : Lx n tb mb to c' a' t' w') (hk : ∀ wo, (c' = -2 → wo = w') → k 1 (nI a') (nI t') (ms c') wo 0 fp) : p_M_takes (nI n) a1 (nI to) a3 a4 0 fp mb x k := by
  unfold p_M_takes
  exact dt hx (need1 (df (by decide) (hL.2.2.2.2.2.2 _ _ _ _ hk)))
def J0 (n : Nat) (tb mb : FF) (n0 : Nat) (t0 : CS) (c : Int32) (at' to : Nat) (w : Int32) : Prop := ∀ (s t : CS) (g : Nat), OKs n0 t0 s t g → JO n0 t0 (fun kd pl s' g' => ∀ b P N l r v, CR n tb 0 c at' to w b P N l r v s g kd pl s' g') (fun kd pl t' g' => ∀ k99 F wo, kM k99 kd pl t' g' → FU n c to F → (c = -2 → wo = w) → MT0 n mb k99 F c at' to wo t g)
def J1 (n : Nat) (tb mb : FF) (n0 : Nat) (t0 : CS) (c : Int32) (at' to : Nat) (w : Int32) : Prop := ∀ (s t : CS) (g : Nat), OKs n0 t0 s t g → t.1 < 200 → g < 60 → JO n0 t0 (fun kd pl s' g' => ∀ b P N l r v, CR n tb 1 c at' to w b P N l r v s g kd pl s' g') (fun kd pl t' g' => ∀ k99 F wo, kM k99 kd pl t' g' → FU n c to F → (c = -2 → wo = w) → MT1 n mb k99 F c at' to wo t g)
def J2 (n : Nat) (tb mb : FF) (n0 : Nat) (t0 : CS) (c : Int32) (at' to : Nat) (w : Int32) : Prop := ∀ (s t : CS) (g b : Nat), OKs n0 t0 s t g → t.1 < 200 → g < 60 → 1 ≤ b → b ≤ 8 → JO n0 t0 (fun kd pl s' g' => ∀ P N l r v, CR n tb 2 c at' to w (nI b) P N l r v s g kd pl s' g') (fun kd pl t' g' => ∀ k99 F wo, kM k99 kd pl t' g' → FU n c to F → (c = -2 → wo = w) → MT2 n mb k99 F c at' to wo (nI b) t g)
def J3 (n : Nat) (tb mb : FF) (n0 : Nat) (t0 : CS) (c : Int32) (at' to : Nat) (w : Int32) : Prop := ∀ (s t : CS) (g b : Nat) (P N : Int32), OKs n0 t0 s t g → t.1 < 200 → g < 60 → 1 ≤ b → b ≤ 8 → P &&& N = 0 → JO n0 t0 (fun kd pl s' g' => ∀ l r v, CR n tb 3 c at' to w (nI b) P N l r v s g kd pl s' g') (fun kd pl t' g' => ∀ k99 F F3 wo, kM k99 kd pl t' g' → FU n c to F → FU n c to F3 → (c = -2 → wo = w) → MT3 n mb k99 F F3 c at' to wo (nI b) P N t g)
def J4 (n : Nat) (tb mb : FF) (n0 : Nat) (t0 : CS) (c : Int32) (at' to : Nat) (w : Int32) : Prop := ∀ (s t : CS) (g b : Nat) (P N : Int32), OKs n0 t0 s t g → t.1 < 200 → g < 60 → 1 ≤ b → b ≤ 8 → P &&& N = 0 → JO n0 t0 (fun kd pl s' g' => ∀ l r v, CR n tb 4 c at' to w (nI b) P N l r v s g kd pl s' g') (fun kd pl t' g' => ∀ k99 F F3 wo, kM k99 kd pl t' g' → FU n c to F → FU n c to F3 → (c = -2 → wo = w) → MT4 n mb k99 F F3 1 c at' to wo (nI b) P N t g)
def J5 (n : Nat) (tb mb : FF) (n0 : Nat) (t0 : CS) (c : Int32) (at' to : Nat) (w : Int32) : Prop := ∀ (s t : CS) (g : Nat), OKs n0 t0 s t g → t.1 < 200 → JO n0 t0 (fun kd pl s' g' => ∀ b P N l r v, CR n tb 5 c at' to w b P N l r v s g kd pl s' g') (fun kd pl t' g' => ∀ k99 F wo, kM k99 kd pl t' g' → FU n c to F → (c = -2 → wo = w) → MT5 n mb k99 F (nI at') (nI to) (ms c) wo 0 (-1) t g)
def J6 (n : Nat) (tb mb : FF) (n0 : Nat) (t0 : CS) (c : Int32) (at' to : Nat) (w : Int32) : Prop := ∀ (s t : CS) (g l : Nat), OKs n0 t0 s t g → t.1 < 200 → 1 ≤ l → l ≤ t.1 → JO n0 t0 (fun kd pl s' g' => ∀ b P N r v, CR n tb 6 c at' to w b P N (nI l) r v s g kd pl s' g') (fun kd pl t' g' => ∀ k99 F wo, kM k99 kd pl t' g' → FU n c to F → (c = -2 → wo = w) → MT6 n mb k99 F (nI l) (nI at') (nI to) (ms c) wo 0 (-1) t g)
def J7 (n : Nat) (tb mb : FF) (n0 : Nat) (t0 : CS) (c : Int32) (at' to : Nat) (w : Int32) : Prop := ∀ (s t : CS) (g l r : Nat), OKs n0 t0 s t g → t.1 < 200 → 1 ≤ l → l ≤ t.1 → 1 ≤ r → r ≤ t.1 → JO n0 t0 (fun kd pl s' g' => ∀ b P N v, CR n tb 7 c at' to w b P N (nI l) (nI r) v s g kd pl s' g') (fun kd pl t' g' => ∀ k99 F wo, kM k99 kd pl t' g' → FU n c to F → (c = -2 → wo = w) → MT7 n mb k99 F (nI l) (nI r) (nI at') (nI to) (ms c) wo 0 (-1) t g)
def J8 (n : Nat) (tb mb : FF) (n0 : Nat) (t0 : CS) (c : Int32) (at' to : Nat) (w : Int32) : Prop := ∀ (s t : CS) (g l r v : Nat), OKs n0 t0 s t g → t.1 < 200 → 1 ≤ l → l ≤ t.1 → 1 ≤ r → r ≤ t.1 → 1 ≤ v → v ≤ 10 → rp t l r v &&& rq t l r v = 0 → JO n0 t0 (fun kd pl s' g' => ∀ b P N, CR n tb 8 c at' to w b P N (nI l) (nI r) (nI v) s g kd pl s' g') (fun kd pl t' g' => ∀ k99 F wo, kM k99 kd pl t' g' → FU n c to F → (c = -2 → wo = w) → MT8 n mb k99 F (rp t l r v) (rq t l r v) (nI l) (nI r) (nI v) c at' to wo t g)
def JA (n : Nat) (tb mb : FF) (n0 : Nat) (t0 : CS) (c : Int32) (at' to : Nat) (w : Int32) : Prop := J0 n tb mb n0 t0 c at' to w ∧ J1 n tb mb n0 t0 c at' to w ∧ J2 n tb mb n0 t0 c at' to w ∧ J3 n tb mb n0 t0 c at' to w ∧ J4 n tb mb n0 t0 c at' to w ∧ J5 n tb mb n0 t0 c at' to w ∧ J6 n tb mb n0 t0 c at' to w ∧ J7 n tb mb n0 t0 c at' to w ∧ J8 n tb mb n0 t0 c at' to w
/-- what a token that isn't the end has behind it -/
def NX (n : Nat) (tb mb : FF) (n0 : Nat) (t0 : CS) (to : Nat) : Prop := ∃ c' a' t' w', Lx n tb mb to c' a' t' w' ∧ JA n tb mb n0 t0 c' a' t' w'
theorem FU.next {c c' w' : Int32} {to a' t' F : Nat} (hc : c ≠ -1) (hto : to ≤ n) (h : FU n c to F) (hL : Lx n tb mb to c' a' t' w') : FU n c' t' F := by
  refine ⟨h.1, ?_⟩
  by_cases q : c' = -1
  · exact Or.inl q
  · have h1 := hL.2.2.2.1 q
    have h2 := hL.2.1
    have h3 := h.2.resolve_left hc
    exact Or.inr (by omega)
theorem FU.prev {c c' w' : Int32} {to a' t' F : Nat} (hc : c ≠ -1) (hto : to ≤ n) (h : FU n c to (F + 1)) (hL : Lx n tb mb to c' a' t' w') : FU n c' t' F := by
  have h3 := h.2.resolve_left hc
  refine ⟨by omega, ?_⟩
  by_cases q : c' = -1
  · exact Or.inl q
  · have h1 := hL.2.2.2.1 q
    have h2 := hL.2.1
    exact Or.inr (by omega)
theorem s_roomG {m g : Nat} {k : Int32 → Prop} (hm : m ≤ 200) (hg : g ≤ 60) (h1 : m < 200 → g < 60 → k 1) (h0 : ¬ (m < 200 ∧ g < 60) → k 0) : p_C_hasRoomForGiven (nI m) (nI g) k := by
  unfold p_C_hasRoomForGiven
  refine s_hasRoom hm (fun hm2 => cf (by decide) ⟨fun q => h0 (fun h => ?_), fun q => h1 hm2 ?_⟩) (fun hm2 => ct rfl (h0 (by omega)))
  · exact absurd q (n_nle (a := 60) (b := g) h.2)
  · rcases Nat.lt_or_ge g 60 with z | z
    · exact z
    · exact absurd (n_le (a := 60) z) q
theorem st0 {c w : Int32} {p at' to : Nat} (hn : n ≤ 2000) (hL : Lx n tb mb p c at' to w) (nx : c ≠ -1 → NX n tb mb n0 t0 to) : J0 n tb mb n0 t0 c at' to w := by
  intro s t g hO
  obtain ⟨ok, -, hto, hat, -, -, -⟩ := hL
  have hs1 : s.1 = t.1 := hO.1.1
  have hm : t.1 ≤ 200 := hO.2.1.2.2.1
  have hg : g ≤ 60 := hO.2.2
  by_cases c1 : c = -1
  · subst c1
    refine ⟨0, -1, s, t, g, Or.inl rfl, hO, fun b P N l r v k F x num hk hF hx hnum => tt0 ?_, fun k99 F wo hk hF hwo => ?_⟩
    · unfold p_R_takeStart
      exact df (by decide) (df (by decide) (ct rfl (c_fin hk hF.1)))
    · obtain ⟨F', rfl⟩ : ∃ F', F = F' + 1 := ⟨F - 1, by have := hF.1; omega⟩
      unfold MT0 p_M_read_L42
      exact dt rfl (ct (by decide) (hk _ _ _ _))
  have hms2 : ¬ ms c = 2 := fun h => c1 ((ms_2 ok).mp h)
  by_cases c2 : c = 99
  · by_cases hr : t.1 < 200 ∧ g < 60
    · obtain ⟨c', a', t', w', hL', hJ⟩ := nx c1
      obtain ⟨kd, pl, s', t2, g', h1, h2, h3, h4⟩ := hJ.2.1 s t g hO hr.1 hr.2
      refine ⟨kd, pl, s', t2, g', h1, h2, fun b P N l r v k F x num hk hF hx hnum => tt0 ?_, fun k99 F wo hk hF hwo => ?_⟩
      · unfold p_R_takeStart p_R_openGiven
        refine dt c2 (s_roomG (by omega) hg (fun _ _ => cf (by decide) (c_adv hn hL' c1 (hat c1) hto (h3 b P N l r v) hk hF hx)) (fun q => absurd ⟨by omega, hr.2⟩ q))
      · obtain ⟨F', rfl⟩ : ∃ F', F = F' + 1 := ⟨F - 1, by have := hF.1; omega⟩
        unfold MT0 p_M_read_L42
        refine dt rfl (cf hms2 (dt ((ms_99 ok).mpr c2) ?_))
        unfold p_M_readGiven
        refine cf (n_nle (a := 60) hr.2) (cf (n_nle (a := 200) hr.1) ?_)
        unfold p_M_readGiven_J25
        exact need1 (df (by decide) (hL'.2.2.2.2.2.2 _ _ _ _ (fun wo hwo => h4 k99 F' wo hk (hF.prev c1 hto hL') hwo)))
    · refine ⟨6, nI at', s, t, g, Or.inr (by decide), hO, fun b P N l r v k F x num hk hF hx hnum => tt0 ?_, fun k99 F wo hk hF hwo => ?_⟩
      · unfold p_R_takeStart p_R_openGiven p_R_fail
        exact dt c2 (s_roomG (by omega) hg (fun a b => absurd ⟨by omega, b⟩ hr) (fun _ => ct rfl (c_flt hk hF.1 (by decide))))
      · obtain ⟨F', rfl⟩ : ∃ F', F = F' + 1 := ⟨F - 1, by have := hF.1; omega⟩
        have hF2 : 1 ≤ F' := by have := hF.2.resolve_left c1; omega
        unfold MT0 p_M_read_L42
        refine dt rfl (cf hms2 (dt ((ms_99 ok).mpr c2) ?_))
        have fl : p_M_readGiven_J24 (nI n) mb (p_M_read_L42 (nI n) mb k99 F') (nI t.1) (nI g) (nI at') (nI to) (ms c) wo 0 (-1) (cP t) (cN t) (cB t) (cL t) (cR t) (cV t) (cX t) := by
          unfold p_M_readGiven_J24 p_M_readGiven_J25
          exact need0 (by decide) (dt rfl (m_flt hk hF2 (by decide)))
        unfold p_M_readGiven
        refine ⟨fun _ => fl, fun q => ⟨fun _ => fl, fun q2 => absurd ⟨?_, ?_⟩ hr⟩⟩
        · rcases Nat.lt_or_ge t.1 200 with z | z
          · exact z
          · exact absurd (n_le (a := 200) z) q2
        · rcases Nat.lt_or_ge g 60 with z | z
          · exact z
          · exact absurd (n_le (a := 60) z) q
  by_cases c3 : c = 114
  · by_cases hr : t.1 < 200
    · obtain ⟨c', a', t', w', hL', hJ⟩ := nx c1
      obtain ⟨kd, pl, s', t2, g', h1, h2, h3, h4⟩ := hJ.2.2.2.2.2.1 s t g hO hr
      refine ⟨kd, pl, s', t2, g', h1, h2, fun b P N l r v k F x num hk hF hx hnum => tt0 ?_, fun k99 F wo hk hF hwo => ?_⟩
      · unfold p_R_takeStart p_R_openResolvent
        refine df c2 (dt c3 (s_hasRoom (by omega) (fun _ => cf (by decide) (c_adv hn hL' c1 (hat c1) hto (h3 b P N l r v) hk hF hx)) (fun q => absurd q (by omega))))
      · obtain ⟨F', rfl⟩ : ∃ F', F = F' + 1 := ⟨F - 1, by have := hF.1; omega⟩
        unfold MT0 p_M_read_L42
        refine dt rfl (cf hms2 (df (fun h => c2 ((ms_99 ok).mp h)) (dt ((ms_114 ok).mpr c3) ?_)))
        unfold p_M_readResolvent
        refine cf (n_nle (a := 200) hr) ?_
        unfold p_M_readResolvent_J16
        exact need1 (df (by decide) (hL'.2.2.2.2.2.2 _ _ _ _ (fun wo hwo => h4 k99 F' wo hk (hF.prev c1 hto hL') hwo)))
    · refine ⟨6, nI at', s, t, g, Or.inr (by decide), hO, fun b P N l r v k F x num hk hF hx hnum => tt0 ?_, fun k99 F wo hk hF hwo => ?_⟩
      · unfold p_R_takeStart p_R_openResolvent p_R_fail
        exact df c2 (dt c3 (s_hasRoom (by omega) (fun a => absurd a (by omega)) (fun _ => ct rfl (c_flt hk hF.1 (by decide)))))
      · obtain ⟨F', rfl⟩ : ∃ F', F = F' + 1 := ⟨F - 1, by have := hF.1; omega⟩
        have hF2 : 1 ≤ F' := by have := hF.2.resolve_left c1; omega
        unfold MT0 p_M_read_L42
        refine dt rfl (cf hms2 (df (fun h => c2 ((ms_99 ok).mp h)) (dt ((ms_114 ok).mpr c3) ?_)))
        unfold p_M_readResolvent p_M_readResolvent_J16
        exact ct (n_le (a := 200) (by omega)) (need0 (by decide) (dt rfl (m_flt hk hF2 (by decide))))
  · refine ⟨1, nI at', s, t, g, Or.inr (by decide), hO, fun b P N l r v k F x num hk hF hx hnum => tt0 ?_, fun k99 F wo hk hF hwo => ?_⟩
    · unfold p_R_takeStart p_R_fail
      exact df c2 (df c3 (cf c1 (c_flt hk hF.1 (by decide))))
    · obtain ⟨F', rfl⟩ : ∃ F', F = F' + 1 := ⟨F - 1, by have := hF.1; omega⟩
      have hF2 : 1 ≤ F' := by have := hF.2.resolve_left c1; omega
      unfold MT0 p_M_read_L42
      exact dt rfl (cf hms2 (df (fun h => c2 ((ms_99 ok).mp h)) (df (fun h => c3 ((ms_114 ok).mp h)) (need0 (by decide) (m_flt hk hF2 (by decide))))))
theorem st1 {c w : Int32} {p at' to : Nat} (hn : n ≤ 2000) (hL : Lx n tb mb p c at' to w) (nx : c ≠ -1 → NX n tb mb n0 t0 to) : J1 n tb mb n0 t0 c at' to w := by
  intro s t g hO hr hg
  obtain ⟨ok, -, hto, hat, -, -, -⟩ := hL
  by_cases c2 : c = -2
  · have c1 : c ≠ -1 := by rw [c2]; decide
    have hm1 : ms c = 1 := (ms_1 ok).mpr c2
    by_cases hw : inR w 1 8
    · obtain ⟨b0, b1, b2, hb⟩ := inR_nat (a := 1) (b := 8) hw (by decide) (by decide)
      obtain ⟨c', a', t', w', hL', hJ⟩ := nx c1
      obtain ⟨kd, pl, s', t2, g', h1, h2, h3, h4⟩ := hJ.2.2.1 s t g b0 hO hr hg b1 b2
      refine ⟨kd, pl, s', t2, g', h1, h2, fun b P N l r v k F x num hk hF hx hnum => tt1 ?_, fun k99 F wo hk hF hwo => ?_⟩
      · have e := hnum c2
        subst e
        have key := c_adv (num := num) hn hL' c1 (hat c1) hto (h3 P N l r v) hk hF hx
        subst c2
        refine tn1 ?_
        unfold p_R_takeBlock
        rw [← hb] at key
        exact cf hw.1 (ct (Int32.not_lt.mp hw.2) key)
      · have e := hwo c2
        subst e
        unfold MT1
        refine dt hm1 ?_
        unfold p_M_readGiven_J52
        refine need1 (cf (by decide) (cf hw.1 (cf hw.2 ?_)))
        unfold p_M_readGiven_J82
        refine need1 (df (by decide) (hL'.2.2.2.2.2.2 _ _ _ _ (fun wo2 hwo2 => ?_)))
        have key := h4 k99 F wo2 hk (hF.next c1 hto hL') hwo2
        rw [← hb] at key
        exact key
    · refine ⟨2, nI at', s, t, g, Or.inr (by decide), hO, fun b P N l r v k F x num hk hF hx hnum => tt1 ?_, fun k99 F wo hk hF hwo => ?_⟩
      · have e := hnum c2
        subst e
        have key : ∀ {y a b c d e f h i j l m : Int32}, p_R_readText_L35 (nI n) tb k F y (nI s.1) (nI g) (cB s) (cL s) (cR s) (cV s) (cP s) (cN s) (cX s) 2 (nI at') a b c d e f h i j l m := c_flt hk hF.1 (by decide)
        subst c2
        refine tn1 ?_
        unfold p_R_takeBlock p_R_fail
        exact ⟨fun _ => key, fun q => ⟨fun q2 => absurd ⟨q, fun h => absurd q2 (Int32.not_le.mpr h)⟩ hw, fun _ => key⟩⟩
      · have e := hwo c2
        subst e
        unfold MT1
        refine dt hm1 ?_
        have fl : p_M_readGiven_J81 (nI n) mb (p_M_read_L42 (nI n) mb k99 F) (nI t.1) (nI g) (nI at') (nI to) (ms c) wo 0 (-1) (cP t) (cN t) (cB t) (cL t) (cR t) (cV t) (cX t) := by
          unfold p_M_readGiven_J81 p_M_readGiven_J82
          exact need0 (by decide) (dt rfl (m_flt hk hF.1 (by decide)))
        unfold p_M_readGiven_J52
        exact need1 (cf (by decide) ⟨fun _ => fl, fun q => ⟨fun _ => fl, fun q2 => absurd ⟨q, q2⟩ hw⟩⟩)
  · refine ⟨1, nI at', s, t, g, Or.inr (by decide), hO, fun b P N l r v k F x num hk hF hx hnum => tt1 (tnF c2 (c_flt hk hF.1 (by decide))), fun k99 F wo hk hF hwo => ?_⟩
    unfold MT1
    refine df (fun h => c2 ((ms_1 ok).mp h)) ?_
    unfold p_M_readGiven_J52
    exact need0 (by decide) (ct rfl (m_flt hk hF.1 (by decide)))
theorem st2 {c w : Int32} {p at' to : Nat} (hn : n ≤ 2000) (hL : Lx n tb mb p c at' to w) (nx : c ≠ -1 → NX n tb mb n0 t0 to) : J2 n tb mb n0 t0 c at' to w := by
  intro s t g b hO hr hg b1 b2
  obtain ⟨ok, -, hto, hat, -, -, -⟩ := hL
  by_cases c2 : c = 58
  · have c1 : c ≠ -1 := by rw [c2]; decide
    obtain ⟨c', a', t', w', hL', hJ⟩ := nx c1
    obtain ⟨kd, pl, s', t2, g', h1, h2, h3, h4⟩ := hJ.2.2.2.1 s t g b 0 0 hO hr hg b1 b2 (by decide)
    refine ⟨kd, pl, s', t2, g', h1, h2, fun P N l r v k F x num hk hF hx hnum => tt2 ?_, fun k99 F wo hk hF hwo => ?_⟩
    · unfold p_R_takeColon
      exact dt c2 (c_adv hn hL' c1 (hat c1) hto (h3 l r v) hk hF hx)
    · unfold MT2
      refine takes1 ((ms_58 ok).mpr c2) hL' (fun wo2 hwo2 => df (by decide) ⟨n + 2, h4 k99 F (n + 2) wo2 hk (hF.next c1 hto hL') ⟨by omega, ?_⟩ hwo2⟩)
      exact Or.inr (by omega)
  · refine ⟨1, nI at', s, t, g, Or.inr (by decide), hO, fun P N l r v k F x num hk hF hx hnum => tt2 ?_, fun k99 F wo hk hF hwo => ?_⟩
    · unfold p_R_takeColon p_R_fail
      exact df c2 (c_flt hk hF.1 (by decide))
    · unfold MT2
      exact takes0 (fun h => c2 ((ms_58 ok).mp h)) (dt rfl (m_flt hk hF.1 (by decide)))
end PS

/-! framing a contract; making objects and arrays -/
theorem Met.conseq {l : Launch} {y : MethodName} {ws : List Cond} {rm : Room} {Pc Pc' : Array Value → State → Prop} {Qc Qc' : Array Value → State → Outcome → State → Prop} {mc ms : Nat} {free free' : Addr → Prop}
    (h : Met l y ws rm Pc Qc mc ms free) (hP : ∀ a s, Pc' a s → Pc a s) (hQ : ∀ a s o t, Pc' a s → Qc a s o t → Qc' a s o t) (hf : ∀ q, free q → free' q) : Met l y ws rm Pc' Qc' mc ms free' := by
  intro p e ha hc hk s m args below hfr hap hP' hK
  obtain ⟨n, o, h1, h2, h3, hq, L, hL, hLf⟩ := h p e ha hc hk s m args below hfr hap (hP _ _ hP') hK
  exact ⟨n, o, h1, h2, h3, hQ _ _ _ _ hP' hq, L, hL, fun q hq => hf _ (hLf q hq)⟩
theorem getR {pre ws : va_W} {k : Nat} {q : Nat × va_E} (h : ws[k]? = some q) : (pre ++ ws)[pre.length + k]? = some q := by
  rw [List.getElem?_append_right (by omega), Nat.add_sub_cancel_left]; exact h
theorem getL {pre ws : va_W} {k : Nat} {q : Nat × va_E} (h : pre[k]? = some q) : (pre ++ ws)[k]? = some q := by
  rw [List.getElem?_append_left (List.getElem?_eq_some_iff.mp h).1]; exact h
theorem getLR {pre ws : va_W} {k : Nat} {q : Nat × va_E} (h : (pre ++ ws)[k]? = some q) : pre[k]? = some q ∨ ∃ j, k = pre.length + j ∧ ws[j]? = some q := by
  rcases Nat.lt_or_ge k pre.length with hk | hk
  · exact Or.inl (by rw [List.getElem?_append_left hk] at h; exact h)
  · refine Or.inr ⟨k - pre.length, by omega, ?_⟩
    rw [List.getElem?_append_right hk] at h; exact h
theorem va_A.appR {pre ws : va_W} {sz q : Nat} (h : va_A ws sz q) : va_A (pre ++ ws) sz q := by
  rcases h with ⟨k, e, h⟩ | h
  · exact Or.inl ⟨_, e, getR h⟩
  · exact Or.inr h
theorem va_A.appL {pre ws : va_W} {sz q : Nat} (h : va_A ws sz q) : va_A (ws ++ pre) sz q := by
  rcases h with ⟨k, e, h⟩ | h
  · exact Or.inl ⟨_, e, getL h⟩
  · exact Or.inr h
theorem va_P.right {D : va_G} {cl : List vw_C} {pre ws : va_W} {H : Heap} (h : va_P D cl (pre ++ ws) H) : va_P D cl ws H := fun k q hk => h _ q (getR hk)
theorem va_P.left {D : va_G} {cl : List vw_C} {pre ws : va_W} {H : Heap} (h : va_P D cl (pre ++ ws) H) : va_P D cl pre H := fun k q hk => h _ q (getL hk)
theorem va_D.right {A : Nat → Prop} {pre ws : va_W} (h : va_D A (pre ++ ws)) : va_D A ws := ⟨fun i j p q hi hj e => by have := h.1 _ _ p q (getR hi) (getR hj) e; omega, fun k q hk => h.2 _ q (getR hk)⟩
theorem va_D.left {A : Nat → Prop} {pre ws : va_W} (h : va_D A (pre ++ ws)) : va_D A pre := ⟨fun i j p q hi hj e => h.1 _ _ p q (getL hi) (getL hj) e, fun k q hk => h.2 _ q (getL hk)⟩
theorem fr_L {D : va_G} {cl : List vw_C} {pre wc w1 : va_W} {A : Nat → Prop} {H H1 : Heap} (hP : va_P D cl (pre ++ wc) H) (hD : va_D A (pre ++ wc)) (hk : ∀ q : Nat, q < H.size → ¬ va_A wc H.size q → H1[q]? = H[q]?) (hP1 : va_P D cl w1 H1) (hD1 : va_D (va_A wc H.size) w1) : va_P D cl (pre ++ w1) H1 ∧ va_D (va_A (pre ++ wc) H.size) (pre ++ w1) := by
  have apart : ∀ (k : Nat) (q : Nat × va_E), pre[k]? = some q → q.1 < H.size ∧ ¬ va_A wc H.size q.1 := by
    intro k q hq
    have hlt := (hP k q (getL hq)).lt
    refine ⟨hlt, fun h => ?_⟩
    rcases h with ⟨j, e, h⟩ | h
    · have h2 := hD.1 k (pre.length + j) q (q.1, e) (getL hq) (getR h) rfl
      have h3 := (List.getElem?_eq_some_iff.mp hq).1
      omega
    · omega
  refine ⟨fun k q h => ?_, fun i j x y hx hy hxy => ?_, fun k q h => ?_⟩
  · rcases getLR h with h | ⟨j, -, h⟩
    · exact (hP k q (getL h)).kept (hk q.1 (apart k q h).1 (apart k q h).2)
    · exact hP1 j q h
  · rcases getLR hx with h | ⟨i', rfl, h⟩ <;> rcases getLR hy with g | ⟨j', rfl, g⟩
    · exact hD.1 i j x y (getL h) (getL g) hxy
    · exact absurd (hxy ▸ hD1.2 j' y g) (apart i x h).2
    · exact absurd (hxy ▸ hD1.2 i' x h) (apart j y g).2
    · have := hD1.1 i' j' x y h g hxy; omega
  · rcases getLR h with h | ⟨j, -, h⟩
    · exact Or.inl ⟨k, q.2, getL h⟩
    · exact va_A.appR (hD1.2 j q h)
theorem fr_R {D : va_G} {cl : List vw_C} {pre wc w1 : va_W} {A : Nat → Prop} {H H1 : Heap} (hP : va_P D cl (wc ++ pre) H) (hD : va_D A (wc ++ pre)) (hk : ∀ q : Nat, q < H.size → ¬ va_A wc H.size q → H1[q]? = H[q]?) (hP1 : va_P D cl w1 H1) (hD1 : va_D (va_A wc H.size) w1) : va_P D cl (w1 ++ pre) H1 ∧ va_D (va_A (wc ++ pre) H.size) (w1 ++ pre) := by
  have apart : ∀ (k : Nat) (q : Nat × va_E), pre[k]? = some q → q.1 < H.size ∧ ¬ va_A wc H.size q.1 := by
    intro k q hq
    have hlt := (hP _ q (getR hq)).lt
    refine ⟨hlt, fun h => ?_⟩
    rcases h with ⟨j, e, h⟩ | h
    · have h2 := hD.1 (wc.length + k) j q (q.1, e) (getR hq) (getL h) rfl
      have h3 := (List.getElem?_eq_some_iff.mp h).1
      omega
    · omega
  refine ⟨fun k q h => ?_, fun i j x y hx hy hxy => ?_, fun k q h => ?_⟩
  · rcases getLR h with h | ⟨j, -, h⟩
    · exact hP1 k q h
    · exact (hP _ q (getR h)).kept (hk q.1 (apart j q h).1 (apart j q h).2)
  · rcases getLR hx with h | ⟨i', rfl, h⟩ <;> rcases getLR hy with g | ⟨j', rfl, g⟩
    · exact hD1.1 i j x y h g hxy
    · exact absurd (hxy ▸ hD1.2 i x h) (apart j' y g).2
    · exact absurd (hxy ▸ hD1.2 j y g) (apart i' x h).2
    · have := hD.1 _ _ x y (getR h) (getR g) hxy; omega
  · rcases getLR h with h | ⟨j, -, h⟩
    · exact va_A.appL (hD1.2 k q h)
    · exact Or.inl ⟨_, q.2, getR h⟩
theorem EN.narrow {D : va_G} {ca : Nat → ClassId} {tp : Nat} {A A' : Nat → Prop} {U : State} {H : Heap} (h : EN D ca tp A U H) (hF : ∀ q, A' q → A q) : EN D ca tp A' U H := ⟨h.1, h.2.1, h.2.2.1.narrow hF, h.2.2.2.narrow hF⟩
section FR
variable {l : Launch} {y : MethodName} {cc : ByteArray} {nL : Nat} {rt : Option FieldType} {rm : Room} {D : va_G} {ca : Nat → ClassId} {tp : Nat} {av : List Value} {ws pre : va_W} {S : Type} {W' : S → va_W} {mc ms : Nat}
theorem PC.frL {sz : Nat} {a : Array Value} {s : State} (h : PC D ca tp av (pre ++ ws) sz a s) : PC D ca tp av ws sz a s := by
  obtain ⟨h1, h2, h3, h4, h5⟩ := h
  exact ⟨h1, h2, h3.narrow (fun _ q => va_A.appR q), h4.right, h5.right⟩
theorem PC.frR {sz : Nat} {a : Array Value} {s : State} (h : PC D ca tp av (ws ++ pre) sz a s) : PC D ca tp av ws sz a s := by
  obtain ⟨h1, h2, h3, h4, h5⟩ := h
  exact ⟨h1, h2, h3.narrow (fun _ q => va_A.appL q), h4.left, h5.left⟩
theorem BW.frL {sz : Nat} {a : Array Value} {s t : State} {u : S} (h : PC D ca tp av (pre ++ ws) sz a s) (hb : BW D (va_A ws sz) W' u t) (hF : va_F (va_A ws sz) s t) : BW D (va_A (pre ++ ws) sz) (fun u => pre ++ W' u) u t := by
  obtain ⟨h1, h2, h3, h4, h5⟩ := h
  subst h2
  exact fr_L h4 h5 hF.2 hb.1 hb.2
theorem BW.frR {sz : Nat} {a : Array Value} {s t : State} {u : S} (h : PC D ca tp av (ws ++ pre) sz a s) (hb : BW D (va_A ws sz) W' u t) (hF : va_F (va_A ws sz) s t) : BW D (va_A (ws ++ pre) sz) (fun u => W' u ++ pre) u t := by
  obtain ⟨h1, h2, h3, h4, h5⟩ := h
  subst h2
  exact fr_R h4 h5 hF.2 hb.1 hb.2
theorem va_F.wide {A B : Nat → Prop} {s t : State} (h : va_F A s t) (hAB : ∀ q, A q → B q) : va_F B s t := ⟨h.1, fun q h1 h2 => h.2 q h1 (fun h3 => h2 (hAB q h3))⟩
theorem MTv.frL {post : S → Prop} (h : MTv l y cc nL rt rm D ca tp av ws post W' mc ms) : MTv l y cc nL rt rm D ca tp av (pre ++ ws) post (fun u => pre ++ W' u) mc ms := fun sz =>
  Met.conseq (h sz) (fun _ _ q => PC.frL q) (fun _ _ _ _ hp hq => ⟨by obtain ⟨⟨u, e1, e2, e3⟩, hF⟩ := hq; exact ⟨u, e1, e2, BW.frL hp e3 hF⟩, hq.2.wide (fun _ q => va_A.appR q)⟩) (fun _ q => va_A.appR q)
theorem MTv.frR {post : S → Prop} (h : MTv l y cc nL rt rm D ca tp av ws post W' mc ms) : MTv l y cc nL rt rm D ca tp av (ws ++ pre) post (fun u => W' u ++ pre) mc ms := fun sz =>
  Met.conseq (h sz) (fun _ _ q => PC.frR q) (fun _ _ _ _ hp hq => ⟨by obtain ⟨⟨u, e1, e2, e3⟩, hF⟩ := hq; exact ⟨u, e1, e2, BW.frR hp e3 hF⟩, hq.2.wide (fun _ q => va_A.appL q)⟩) (fun _ q => va_A.appL q)
theorem MTi.frL {post : Int32 → S → Prop} (h : MTi l y cc nL rt rm D ca tp av ws post W' mc ms) : MTi l y cc nL rt rm D ca tp av (pre ++ ws) post (fun u => pre ++ W' u) mc ms := fun sz =>
  Met.conseq (h sz) (fun _ _ q => PC.frL q) (fun _ _ _ _ hp hq => ⟨by obtain ⟨⟨r, u, e1, e2, e3⟩, hF⟩ := hq; exact ⟨r, u, e1, e2, BW.frL hp e3 hF⟩, hq.2.wide (fun _ q => va_A.appR q)⟩) (fun _ q => va_A.appR q)
theorem MTi.frR {post : Int32 → S → Prop} (h : MTi l y cc nL rt rm D ca tp av ws post W' mc ms) : MTi l y cc nL rt rm D ca tp av (ws ++ pre) post (fun u => W' u ++ pre) mc ms := fun sz =>
  Met.conseq (h sz) (fun _ _ q => PC.frR q) (fun _ _ _ _ hp hq => ⟨by obtain ⟨⟨r, u, e1, e2, e3⟩, hF⟩ := hq; exact ⟨r, u, e1, e2, BW.frR hp e3 hF⟩, hq.2.wide (fun _ q => va_A.appL q)⟩) (fun _ q => va_A.appL q)
end FR
theorem ra_inj {U : State} {cA cB : ClassId} {ty : FieldType} (h : va_RA U cA ty) (g : va_RA U cB ty) : cA = cB := by
  cases ty with
  | object C =>
    obtain ⟨_, _, _, _, _, h4⟩ := h
    obtain ⟨_, _, _, _, _, g4⟩ := g
    exact Option.some.inj (h4.symm.trans g4)
  | _ => exact Option.some.inj (Eq.trans (Eq.symm h) g)
section XN
variable {p : Program} {l : Launch} {e : Env} {R : Room} {s : State} {m : MethodId} {args : Array Value} {below : List Frame} {meth : Method} {c : Code} {H : Heap} {locs : List Loc} {cells slots : Nat} {Q : State → Prop} {cc : ByteArray} {pc : Nat} {ls : Array Slot} {rest : List Value} {D : va_G} {A : Nat → Prop} {a : Nat} {ws : va_W} {nL : Nat} {rt : Option FieldType} {own nm : String} {ca : Nat → ClassId} {tp : Nat} {lv : List (Nat × Value)}
theorem x_newa (C0 : CX p s m args meth c cc nL rt own nm D ca tp A) (hw : WH D A s ws H locs) (t0 : Nat) {cA0 : ClassId} {ty : FieldType} (ht : (TYS ca)[t0]? = some (cA0, ty)) {atype : ArrayType} (hty : newarray.typeOf atype = ty) (harr : Cond.arrayClass ty ∈ gw_tbl) {n : Int32} {N' : Nat} {a0 : vp_A} (ha : ∀ cA : ClassId, vp_cell cA a0 = arrV cA N' (fun _ => defaultValue ty)) (hn : ¬ n < 0) (hN : n.toNatClampNeg = N') (hbytes : N' * componentBytes ty ≤ 536870912) (hcells : cells + 1 ≤ R.cells) (hslots : slots + N' ≤ R.slots) (hdg : decode cc pc = .ok (.newarray atype, 2))
    (kk : ∀ (q : Nat) (H1 : Heap), WH D A s (ws ++ [(q, .inl (cA0, a0))]) H1 locs → W p l e R s m args below meth c H1 locs (cells + 1) (slots + N') Q (F0 m (pc + 2) ls (.ref q :: rest))) : W p l e R s m args below meth c H locs cells slots Q (F0 m pc ls (.int n :: rest)) := by
  subst hty
  refine va_newa C0.1 C0.2.1 (C0.ts _ harr) rfl C0.en.1 hw.1 hw.2.1 hw.2.2 C0.ha ha hn hN hbytes hcells hslots hdg (fun q cA H1 hK hP hD hS => ?_)
  have h1 := (hK.2 4 (cA, newarray.typeOf atype) rfl).2
  have h2 := (C0.en.1.2 t0 _ ht).2
  have e1 : cA = cA0 := ra_inj h1 h2
  subst e1
  exact kk q H1 ⟨hP, hD, hS⟩
theorem x_new (C0 : CX p s m args meth c cc nL rt own nm D ca tp A) (hw : WH D A s ws H locs) {ci : Nat} {C : String} {T : u_T} {N : Nat} (hc : classes[ci]? = some (C, T, N)) (hin : ∀ w ∈ u_ws C T N, w ∈ gw_tbl) {ty : Nat → FieldType} (hty : ∀ k, k < N → parseFieldDescriptor (T k).2.2.1 = some (ty k)) {index : Nat} (hcl : Cond.classLink own index C ∈ gw_tbl) (hinst : Cond.instantiable C N ∈ gw_tbl) (hini : Cond.initialized C ∈ gw_tbl) {fs : List Value} (hfs : ∀ j, j < N → defaultValue (ty j) = vp_V fs j) (hcells : cells + 1 ≤ R.cells) (hslots : slots + N ≤ R.slots) (hdg : decode cc pc = .ok (.new index, 3))
    (kk : ∀ (q : Nat) (H1 : Heap), WH D A s (ws ++ [(q, .inr (ci, fs))]) H1 locs → W p l e R s m args below meth c H1 locs (cells + 1) (slots + N) Q (F0 m (pc + 3) ls (.ref q :: rest))) : W p l e R s m args below meth c H locs cells slots Q (F0 m pc ls rest) :=
  va_new C0.1 C0.2.1 C0.ts hin ty hty C0.ho (C0.ts _ hcl) (C0.ts _ hinst) (C0.ts _ hini) C0.en.1 hw.1 hw.2.1 hw.2.2 C0.ha hc hfs hcells hslots hdg (fun q H1 hP hD hS => kk q H1 ⟨hP, hD, hS⟩)
theorem x_putF (C0 : CX p s m args meth c cc nL rt own "<init>" D ca tp A) (hw : WH D A s ws H locs) (q0 : Nat) {ci : Nat} {fs : List Value} (he : ws[q0]? = some (a, .inr (ci, fs))) {C : String} {T : u_T} {N : Nat} (hc : classes[ci]? = some (C, T, N)) (hin : ∀ w ∈ u_ws C T N, w ∈ gw_tbl) {ty0 : Nat → FieldType} (hty : ∀ k, k < N → parseFieldDescriptor (T k).2.2.1 = some (ty0 k)) (hnm : ∀ a, a < N → ∀ b, b < N → a ≠ b → (T a).2.1 ≠ (T b).2.1) (k : Nat) (hk : k < N) {ref : String} {index : Nat} (hlink : Cond.fieldLink own index ref (T k).2.1 (T k).2.2.1 ∈ gw_tbl) (href : (T k).1 = ref) (hfin : (T k).2.2.2 = true) (hdecl : (T k).1 = own) {v : Value} (hn : narrow (ty0 k) v = v) (hfit : fits (ty0 k) v = true) (hl : k < fs.length) {ws' : va_W} (hws : ws.set q0 (a, .inr (ci, fs.set k v)) = ws') (hdg : decode cc pc = .ok (.putfield index, 3))
    (kk : ∀ (H1 : Heap) (locs1 : List Loc), WH D A s ws' H1 locs1 → W p l e R s m args below meth c H1 locs1 cells slots Q (F0 m (pc + 3) ls rest)) : W p l e R s m args below meth c H locs cells slots Q (F0 m pc ls (v :: .ref a :: rest)) :=
  va_putF C0.1 C0.2.1 C0.ts hin ty0 hty hnm C0.ho C0.en.1 hw.1 hw.2.1 hw.2.2 q0 he hc k hk (C0.ts _ hlink) (fun x h => by rw [← href]; exact h) hfin C0.nme hdecl (hty k hk) hn hfit hl hdg (fun H1 locs1 h1 h2 h3 => kk H1 locs1 ⟨hws ▸ h1, hws ▸ h2, h3⟩)
theorem x_obj (C0 : CX p s m args meth c cc nL rt own nm D ca tp A) (hl : lv_has ls nL lv) {idx : Nat} (hlink : Cond.methodLink own idx objectInit ∈ gw_tbl) (hinst : Cond.instanceMethod objectInit ∈ gw_tbl) (hcode : Cond.code objectInit ⟨#[0xb1]⟩ 1 none ∈ gw_tbl) (hd : decode cc pc = .ok (.invokespecial idx, 3)) (hframes : 1 ≤ R.frames) (hlocals : (rest.map fun v => v.category).sum + 12 ≤ R.locals)
    (kk : W p l e R s m args below meth c H locs cells slots Q (F0 m (pc + 3) ls rest)) : W p l e R s m args below meth c H locs cells slots Q (F0 m pc ls (.ref a :: rest)) :=
  W.objInit C0.1 C0.2.1 C0.ho (C0.ts _ hlink) (C0.ts _ hinst) (C0.ts _ hcode) rfl (by rw [C0.2.2.1]; exact hl.1) rfl hd hframes (by simpa [JFrame.monitorRoom] using hlocals) kk
end XN

/-! THE WALK'S OWN ROWS: what every walk has (CX), the world that it stands in (WH), contracts (MTi, MTl, MTv), and the kit's rows over them -/
def pt6 (j : Nat) : Int64 := if j = 0 then -6148914691236517206 else if j = 1 then -3689348814741910324 else if j = 2 then -1085102592571150096 else if j = 3 then -71777214294589696 else if j = 4 then -281470681808896 else -4294967296
def pat (j : Nat) : Value := .long (pt6 j)
abbrev TYS (ca : Nat → ClassId) : List (ClassId × FieldType) := [(ca 0, .int), (ca 1, .long), (ca 2, .boolean), (ca 3, .byte)]
def NW (U : State) : Prop := ∀ w ∈ nw_tbl, va_Nw w U
def EN (D : va_G) (ca : Nat → ClassId) (tp : Nat) (A : Nat → Prop) (U : State) (H : Heap) : Prop :=
  va_K D classes (TYS ca) U ∧ NW U ∧ va_Z R_U "PATTERNS" "[J" (.ref tp) A U H ∧ va_T .long tp 6 pat A U H
def WH (D : va_G) (A : Nat → Prop) (s : State) (ws : va_W) (H : Heap) (locs : List Loc) : Prop := va_P D classes ws H ∧ va_D A ws ∧ va_S A s.heap H locs
theorem NW.warm {s U : State} (hW : s.WarmedH U.vm) (h : NW s) : NW U := by
  intro w hw
  have h1 := h w hw
  have h2 : isNest w = true := (List.mem_filter.mp hw).2
  cases w <;> first | exact va_Nw.warmF hW h1 | exact va_Nw.warmM hW h1 | (simp [isNest] at h2)
theorem NW.same {u U : State} (hvm : u.vm = U.vm) (h : NW u) : NW U := by
  intro w hw
  have h1 := h w hw
  have h2 : isNest w = true := (List.mem_filter.mp hw).2
  cases w <;> first | exact va_Nw.same rfl hvm h1 | (simp [isNest] at h2)
theorem EN.same {D : va_G} {ca : Nat → ClassId} {tp : Nat} {A : Nat → Prop} {u U : State} {H : Heap} (hvm : u.vm = U.vm) (hv : u.vm.Alike U.vm) (h : EN D ca tp A u H) : EN D ca tp A U H :=
  ⟨va_K.moved hv h.1, NW.same hvm h.2.1, h.2.2.1.moved hv, h.2.2.2.moved hv⟩
theorem EN.call {D : va_G} {ca : Nat → ClassId} {tp : Nat} {A A' : Nat → Prop} {s U : State} {H : Heap} {locs : List Loc} (hE : EN D ca tp A s s.heap) (hS : va_S A s.heap H locs) (hF : ∀ q, A' q → A q) (hU : U.heap = H) (hW : s.WarmedH U.vm) : EN D ca tp A' U U.heap := by
  rw [hU]
  exact ⟨va_K.moved hW.alike hE.1, NW.warm hW hE.2.1, ((hE.2.2.1.kept hS.2.1).narrow hF).moved hW.alike, ((hE.2.2.2.kept hS.2.1).narrow hF).moved hW.alike⟩
def CX (p : Program) (s : State) (m : MethodId) (args : Array Value) (meth : Method) (c : Code) (cc : ByteArray) (nL : Nat) (rt : Option FieldType) (own nm : String) (D : va_G) (ca : Nat → ClassId) (tp : Nat) (A : Nat → Prop) : Prop :=
  p.tables.exec = Jvm.exec ∧ c.code = cc ∧ c.maxLocals = nL ∧ meth.sig.returnType = rt ∧ s.vm.findClass own = some m.cls ∧ (∀ w ∈ gw_tbl, w.before args s = true) ∧ meth.locks = false ∧ meth.name = nm ∧ EN D ca tp A s s.heap ∧ (∀ q, s.heap.size ≤ q → A q)
def PC (D : va_G) (ca : Nat → ClassId) (tp : Nat) (av : List Value) (ws : va_W) (sz : Nat) : Array Value → State → Prop :=
  va_Pc av (fun U => U.heap.size = sz ∧ EN D ca tp (va_A ws sz) U U.heap ∧ va_P D classes ws U.heap ∧ va_D (fun _ => True) ws)
def BW {S : Type} (D : va_G) (A : Nat → Prop) (W' : S → va_W) (u : S) (t : State) : Prop := va_P D classes (W' u) t.heap ∧ va_D A (W' u)
abbrev CW (y : MethodName) (cc : ByteArray) (nL : Nat) (rt : Option FieldType) : List Cond := Cond.code y cc nL rt :: gw_tbl
def MTi (l : Launch) (y : MethodName) (cc : ByteArray) (nL : Nat) (rt : Option FieldType) (rm : Room) (D : va_G) (ca : Nat → ClassId) (tp : Nat) (av : List Value) (ws : va_W) {S : Type} (post : Int32 → S → Prop) (W' : S → va_W) (mc ms : Nat) : Prop :=
  ∀ sz : Nat, Met l y (CW y cc nL rt) rm (PC D ca tp av ws sz) (va_Qi post (BW D (va_A ws sz) W') (va_A ws sz)) mc ms (va_A ws sz)
def MTl (l : Launch) (y : MethodName) (cc : ByteArray) (nL : Nat) (rt : Option FieldType) (rm : Room) (D : va_G) (ca : Nat → ClassId) (tp : Nat) (av : List Value) (ws : va_W) {S : Type} (post : Int64 → S → Prop) (W' : S → va_W) (mc ms : Nat) : Prop :=
  ∀ sz : Nat, Met l y (CW y cc nL rt) rm (PC D ca tp av ws sz) (va_Ql post (BW D (va_A ws sz) W') (va_A ws sz)) mc ms (va_A ws sz)
def MTv (l : Launch) (y : MethodName) (cc : ByteArray) (nL : Nat) (rt : Option FieldType) (rm : Room) (D : va_G) (ca : Nat → ClassId) (tp : Nat) (av : List Value) (ws : va_W) {S : Type} (post : S → Prop) (W' : S → va_W) (mc ms : Nat) : Prop :=
  ∀ sz : Nat, Met l y (CW y cc nL rt) rm (PC D ca tp av ws sz) (va_Qv post (BW D (va_A ws sz) W') (va_A ws sz)) mc ms (va_A ws sz)
abbrev QI {S : Type} (D : va_G) (A : Nat → Prop) (below : List Frame) (args : Array Value) (s : State) (post : Int32 → S → Prop) (W' : S → va_W) (mc ms : Nat) : State → Prop := MQ below (va_Qi post (BW D A W') A) args s mc ms A
abbrev QL {S : Type} (D : va_G) (A : Nat → Prop) (below : List Frame) (args : Array Value) (s : State) (post : Int64 → S → Prop) (W' : S → va_W) (mc ms : Nat) : State → Prop := MQ below (va_Ql post (BW D A W') A) args s mc ms A
abbrev QV {S : Type} (D : va_G) (A : Nat → Prop) (below : List Frame) (args : Array Value) (s : State) (post : S → Prop) (W' : S → va_W) (mc ms : Nat) : State → Prop := MQ below (va_Qv post (BW D A W') A) args s mc ms A
section XE
variable {l : Launch} {y : MethodName} {cc : ByteArray} {nL : Nat} {rt : Option FieldType} {rm : Room} {D : va_G} {ca : Nat → ClassId} {tp : Nat} {av : List Value} {ws : va_W} {S : Type} {W' : S → va_W} {mc ms : Nat} {own nm : String}
theorem x_entry {Qc : Nat → Array Value → State → Outcome → State → Prop} (hy : plainName y.cls = true) (ho : y.cls = own) (hn : y.name = nm) (hlen : (lg_sl av).length ≤ nL)
    (body : ∀ (p : Program) (e : Env) (s : State) (m : MethodId) (below : List Frame) (meth : Method) (c : Code) (A : Nat → Prop) (ls : Array Slot), A = va_A ws s.heap.size → CX p s m av.toArray meth c cc nL rt own nm D ca tp A → WH D A s ws s.heap [] → lv_has ls nL (lv_args 0 av) →
      W p l e rm s m av.toArray below meth c s.heap [] 0 0 (MQ below (Qc s.heap.size) av.toArray s mc ms A) (F0 m 0 ls [])) :
    ∀ sz : Nat, Met l y (CW y cc nL rt) rm (PC D ca tp av ws sz) (Qc sz) mc ms (va_A ws sz) := by
  intro sz
  refine Met.ofW (cc := cc) (maxL := nL) (ret := rt) hy rfl ?_
  intro p e s m args below meth c s₁ B hml hv
  obtain ⟨rfl, hsz, hE, hP, hD0⟩ := hv
  subst hsz; subst ho; subst hn
  have hts := atoms_spec (ws := CW y cc nL rt) B.pre
  have hD := hD0.self (sz := s.heap.size)
  rw [lg_entry_eq]
  exact body p e s m below meth c (va_A ws s.heap.size) _ rfl ⟨B.exec, B.bytes, hml, B.returns, findClass_of_methodNamed B.named, fun w hw => hts w (List.mem_cons_of_mem _ hw), B.notSynchronized, (name_of_methodNamed B.named B.method).1, hE, fun q h => Or.inr h⟩ ⟨hP, hD, va_S.rf⟩ (lv_entry av hlen)
theorem x_entryi {post : Int32 → S → Prop} (hy : plainName y.cls = true) (ho : y.cls = own) (hn : y.name = nm) (hlen : (lg_sl av).length ≤ nL)
    (body : ∀ (p : Program) (e : Env) (s : State) (m : MethodId) (below : List Frame) (meth : Method) (c : Code) (A : Nat → Prop) (ls : Array Slot), CX p s m av.toArray meth c cc nL rt own nm D ca tp A → WH D A s ws s.heap [] → lv_has ls nL (lv_args 0 av) →
      W p l e rm s m av.toArray below meth c s.heap [] 0 0 (QI D A below av.toArray s post W' mc ms) (F0 m 0 ls [])) : MTi l y cc nL rt rm D ca tp av ws post W' mc ms :=
  x_entry (Qc := fun sz => va_Qi post (BW D (va_A ws sz) W') (va_A ws sz)) hy ho hn hlen (fun p e s m below meth c A ls hAe C0 hw hl => by subst hAe; exact body p e s m below meth c _ ls C0 hw hl)
theorem x_entryl {post : Int64 → S → Prop} (hy : plainName y.cls = true) (ho : y.cls = own) (hn : y.name = nm) (hlen : (lg_sl av).length ≤ nL)
    (body : ∀ (p : Program) (e : Env) (s : State) (m : MethodId) (below : List Frame) (meth : Method) (c : Code) (A : Nat → Prop) (ls : Array Slot), CX p s m av.toArray meth c cc nL rt own nm D ca tp A → WH D A s ws s.heap [] → lv_has ls nL (lv_args 0 av) →
      W p l e rm s m av.toArray below meth c s.heap [] 0 0 (QL D A below av.toArray s post W' mc ms) (F0 m 0 ls [])) : MTl l y cc nL rt rm D ca tp av ws post W' mc ms :=
  x_entry (Qc := fun sz => va_Ql post (BW D (va_A ws sz) W') (va_A ws sz)) hy ho hn hlen (fun p e s m below meth c A ls hAe C0 hw hl => by subst hAe; exact body p e s m below meth c _ ls C0 hw hl)
theorem x_entryv {post : S → Prop} (hy : plainName y.cls = true) (ho : y.cls = own) (hn : y.name = nm) (hlen : (lg_sl av).length ≤ nL)
    (body : ∀ (p : Program) (e : Env) (s : State) (m : MethodId) (below : List Frame) (meth : Method) (c : Code) (A : Nat → Prop) (ls : Array Slot), CX p s m av.toArray meth c cc nL rt own nm D ca tp A → WH D A s ws s.heap [] → lv_has ls nL (lv_args 0 av) →
      W p l e rm s m av.toArray below meth c s.heap [] 0 0 (QV D A below av.toArray s post W' mc ms) (F0 m 0 ls [])) : MTv l y cc nL rt rm D ca tp av ws post W' mc ms :=
  x_entry (Qc := fun sz => va_Qv post (BW D (va_A ws sz) W') (va_A ws sz)) hy ho hn hlen (fun p e s m below meth c A ls hAe C0 hw hl => by subst hAe; exact body p e s m below meth c _ ls C0 hw hl)
end XE
section XR
variable {p : Program} {l : Launch} {e : Env} {R : Room} {s : State} {m : MethodId} {args : Array Value} {below : List Frame} {meth : Method} {c : Code} {H : Heap} {locs : List Loc} {cells slots : Nat} {Q : State → Prop} {cc : ByteArray} {pc : Nat} {ls : Array Slot} {rest : List Value} {D : va_G} {A : Nat → Prop} {a : Nat} {ws : va_W} {nL : Nat} {rt : Option FieldType} {own nm : String} {ca : Nat → ClassId} {tp : Nat}
theorem CX.hr (C0 : CX p s m args meth c cc nL rt own nm D ca tp A) : meth.sig.returnType = rt := C0.2.2.2.1
theorem CX.ho (C0 : CX p s m args meth c cc nL rt own nm D ca tp A) : s.vm.findClass own = some m.cls := C0.2.2.2.2.1
theorem CX.ts (C0 : CX p s m args meth c cc nL rt own nm D ca tp A) : ∀ w ∈ gw_tbl, w.before args s = true := C0.2.2.2.2.2.1
theorem CX.lk (C0 : CX p s m args meth c cc nL rt own nm D ca tp A) : meth.locks = false := C0.2.2.2.2.2.2.1
theorem CX.nme (C0 : CX p s m args meth c cc nL rt own nm D ca tp A) : meth.name = nm := C0.2.2.2.2.2.2.2.1
theorem CX.en (C0 : CX p s m args meth c cc nL rt own nm D ca tp A) : EN D ca tp A s s.heap := C0.2.2.2.2.2.2.2.2.1
theorem CX.ha (C0 : CX p s m args meth c cc nL rt own nm D ca tp A) : ∀ q, s.heap.size ≤ q → A q := C0.2.2.2.2.2.2.2.2.2
theorem WH.fr (C0 : CX p s m args meth c cc nL rt own nm D ca tp A) (hw : WH D A s ws H locs) : ∀ q, va_A ws H.size q → A q := by
  intro q h
  rcases h with ⟨k, e, h⟩ | h
  · exact hw.2.1.2 k (q, e) h
  · exact C0.ha q (Nat.le_trans hw.2.2.1 h)
theorem x_get (C0 : CX p s m args meth c cc nL rt own nm D ca tp A) (hw : WH D A s ws H locs) (q0 : Nat) {ci : Nat} {fs : List Value} (he : ws[q0]? = some (a, .inr (ci, fs))) {C : String} {T : u_T} {N : Nat} (hc : classes[ci]? = some (C, T, N)) (hin : ∀ w ∈ u_ws C T N, w ∈ gw_tbl) (k : Nat) (hk : k < N) {ref : String} {index : Nat} (hlink : Cond.fieldLink own index ref (T k).2.1 (T k).2.2.1 ∈ gw_tbl) (href : (T k).1 = ref) {v : Value} (hv : fs[k]? = some v) (hdg : decode cc pc = .ok (.getfield index, 3))
    (kk : W p l e R s m args below meth c H locs cells slots Q (F0 m (pc + 3) ls (v :: rest))) : W p l e R s m args below meth c H locs cells slots Q (F0 m pc ls (.ref a :: rest)) :=
  va_get C0.1 C0.2.1 C0.ts hin C0.ho C0.en.1 hw.1 q0 he hc k hk (C0.ts _ hlink) (fun x h => by rw [← href]; exact h) hv hdg kk
theorem x_getN (C0 : CX p s m args meth c cc nL rt own nm D ca tp A) (hw : WH D A s ws H locs) (q0 : Nat) {ci : Nat} {fs : List Value} (he : ws[q0]? = some (a, .inr (ci, fs))) {C : String} {T : u_T} {N : Nat} (hc : classes[ci]? = some (C, T, N)) (hin : ∀ w ∈ u_ws C T N, w ∈ gw_tbl) (k : Nat) (hk : k < N) {ref host : String} {index : Nat} (hlink : Cond.fieldLinkNest own index ref (T k).2.1 (T k).2.2.1 host ∈ nw_tbl) (href : (T k).1 = ref) {v : Value} (hv : fs[k]? = some v) (hdg : decode cc pc = .ok (.getfield index, 3))
    (kk : W p l e R s m args below meth c H locs cells slots Q (F0 m (pc + 3) ls (v :: rest))) : W p l e R s m args below meth c H locs cells slots Q (F0 m pc ls (.ref a :: rest)) :=
  va_getN C0.1 C0.2.1 C0.ts hin C0.ho C0.en.1 hw.1 q0 he hc k hk (va_Nw.use rfl (C0.en.2.1 _ hlink)) (fun x h => by rw [← href]; exact h) hv hdg kk
theorem x_put (C0 : CX p s m args meth c cc nL rt own nm D ca tp A) (hw : WH D A s ws H locs) (q0 : Nat) {ci : Nat} {fs : List Value} (he : ws[q0]? = some (a, .inr (ci, fs))) {C : String} {T : u_T} {N : Nat} (hc : classes[ci]? = some (C, T, N)) (hin : ∀ w ∈ u_ws C T N, w ∈ gw_tbl) {ty0 : Nat → FieldType} (hty : ∀ k, k < N → parseFieldDescriptor (T k).2.2.1 = some (ty0 k)) (hnm : ∀ a, a < N → ∀ b, b < N → a ≠ b → (T a).2.1 ≠ (T b).2.1) (k : Nat) (hk : k < N) {ref : String} {index : Nat} (hlink : Cond.fieldLink own index ref (T k).2.1 (T k).2.2.1 ∈ gw_tbl) (href : (T k).1 = ref) (hfin : (T k).2.2.2 = false) {v : Value} (hn : narrow (ty0 k) v = v) (hfit : fits (ty0 k) v = true) (hl : k < fs.length) {ws' : va_W} (hws : ws.set q0 (a, .inr (ci, fs.set k v)) = ws') (hdg : decode cc pc = .ok (.putfield index, 3))
    (kk : ∀ (H1 : Heap) (locs1 : List Loc), WH D A s ws' H1 locs1 → W p l e R s m args below meth c H1 locs1 cells slots Q (F0 m (pc + 3) ls rest)) : W p l e R s m args below meth c H locs cells slots Q (F0 m pc ls (v :: .ref a :: rest)) :=
  va_put C0.1 C0.2.1 C0.ts hin ty0 hty hnm C0.ho C0.en.1 hw.1 hw.2.1 hw.2.2 q0 he hc k hk (C0.ts _ hlink) (fun x h => by rw [← href]; exact h) hfin (hty k hk) hn hfit hl hdg (fun H1 locs1 h1 h2 h3 => kk H1 locs1 ⟨hws ▸ h1, hws ▸ h2, h3⟩)
theorem x_putN (C0 : CX p s m args meth c cc nL rt own nm D ca tp A) (hw : WH D A s ws H locs) (q0 : Nat) {ci : Nat} {fs : List Value} (he : ws[q0]? = some (a, .inr (ci, fs))) {C : String} {T : u_T} {N : Nat} (hc : classes[ci]? = some (C, T, N)) (hin : ∀ w ∈ u_ws C T N, w ∈ gw_tbl) {ty0 : Nat → FieldType} (hty : ∀ k, k < N → parseFieldDescriptor (T k).2.2.1 = some (ty0 k)) (hnm : ∀ a, a < N → ∀ b, b < N → a ≠ b → (T a).2.1 ≠ (T b).2.1) (k : Nat) (hk : k < N) {ref host : String} {index : Nat} (hlink : Cond.fieldLinkNest own index ref (T k).2.1 (T k).2.2.1 host ∈ nw_tbl) (href : (T k).1 = ref) (hfin : (T k).2.2.2 = false) {v : Value} (hn : narrow (ty0 k) v = v) (hfit : fits (ty0 k) v = true) (hl : k < fs.length) {ws' : va_W} (hws : ws.set q0 (a, .inr (ci, fs.set k v)) = ws') (hdg : decode cc pc = .ok (.putfield index, 3))
    (kk : ∀ (H1 : Heap) (locs1 : List Loc), WH D A s ws' H1 locs1 → W p l e R s m args below meth c H1 locs1 cells slots Q (F0 m (pc + 3) ls rest)) : W p l e R s m args below meth c H locs cells slots Q (F0 m pc ls (v :: .ref a :: rest)) :=
  va_putN C0.1 C0.2.1 C0.ts hin ty0 hty hnm C0.ho C0.en.1 hw.1 hw.2.1 hw.2.2 q0 he hc k hk (va_Nw.use rfl (C0.en.2.1 _ hlink)) (fun x h => by rw [← href]; exact h) hfin (hty k hk) hn hfit hl hdg (fun H1 locs1 h1 h2 h3 => kk H1 locs1 ⟨hws ▸ h1, hws ▸ h2, h3⟩)
theorem x_iald (C0 : CX p s m args meth c cc nL rt own nm D ca tp A) (hw : WH D A s ws H locs) (q0 : Nat) {n : Nat} {f : Nat → Int32} (ha : ws[q0]? = some (a, .inl (ca 0, n, .inl f))) {i : Int32} (hin : vp_in i n) (hdg : decode cc pc = .ok (.iaload, 1))
    (kk : W p l e R s m args below meth c H locs cells slots Q (F0 m (pc + 1) ls (.int (f i.toNatClampNeg) :: rest))) : W p l e R s m args below meth c H locs cells slots Q (F0 m pc ls (.int i :: .ref a :: rest)) :=
  va_iald C0.1 C0.2.1 C0.en.1 hw.1 q0 0 ha rfl hin hdg kk
theorem x_zald (C0 : CX p s m args meth c cc nL rt own nm D ca tp A) (hw : WH D A s ws H locs) (q0 : Nat) {n : Nat} {f : Nat → Int32} (ha : ws[q0]? = some (a, .inl (ca 2, n, .inl f))) {i : Int32} (hin : vp_in i n) (hdg : decode cc pc = .ok (.baload, 1))
    (kk : W p l e R s m args below meth c H locs cells slots Q (F0 m (pc + 1) ls (.int (f i.toNatClampNeg) :: rest))) : W p l e R s m args below meth c H locs cells slots Q (F0 m pc ls (.int i :: .ref a :: rest)) :=
  va_zald C0.1 C0.2.1 C0.en.1 hw.1 q0 2 ha rfl hin hdg kk
theorem x_bald (C0 : CX p s m args meth c cc nL rt own nm D ca tp A) (hw : WH D A s ws H locs) (q0 : Nat) {n : Nat} {f : Nat → Int32} (ha : ws[q0]? = some (a, .inl (ca 3, n, .inl f))) {i : Int32} (hin : vp_in i n) (hdg : decode cc pc = .ok (.baload, 1))
    (kk : W p l e R s m args below meth c H locs cells slots Q (F0 m (pc + 1) ls (.int (f i.toNatClampNeg) :: rest))) : W p l e R s m args below meth c H locs cells slots Q (F0 m pc ls (.int i :: .ref a :: rest)) :=
  va_bald C0.1 C0.2.1 C0.en.1 hw.1 q0 3 ha rfl hin hdg kk
theorem x_lald (C0 : CX p s m args meth c cc nL rt own nm D ca tp A) (hw : WH D A s ws H locs) (q0 : Nat) {n : Nat} {f : Nat → Int64} (ha : ws[q0]? = some (a, .inl (ca 1, n, .inr (.inl f)))) {i : Int32} (hin : vp_in i n) (hdg : decode cc pc = .ok (.laload, 1))
    (kk : W p l e R s m args below meth c H locs cells slots Q (F0 m (pc + 1) ls (.long (f i.toNatClampNeg) :: rest))) : W p l e R s m args below meth c H locs cells slots Q (F0 m pc ls (.int i :: .ref a :: rest)) :=
  va_lald C0.1 C0.2.1 C0.en.1 hw.1 q0 1 ha rfl hin hdg kk
theorem x_iast (C0 : CX p s m args meth c cc nL rt own nm D ca tp A) (hw : WH D A s ws H locs) (q0 : Nat) {n : Nat} {f : Nat → Int32} (ha : ws[q0]? = some (a, .inl (ca 0, n, .inl f))) {i x : Int32} (hin : vp_in i n) {ws' : va_W} (hws : ws.set q0 (a, .inl (ca 0, n, .inl (upd f i.toNatClampNeg x))) = ws') (hdg : decode cc pc = .ok (.iastore, 1))
    (kk : ∀ (H1 : Heap) (locs1 : List Loc), WH D A s ws' H1 locs1 → W p l e R s m args below meth c H1 locs1 cells slots Q (F0 m (pc + 1) ls rest)) : W p l e R s m args below meth c H locs cells slots Q (F0 m pc ls (.int x :: .int i :: .ref a :: rest)) :=
  va_iast C0.1 C0.2.1 C0.en.1 hw.1 hw.2.1 hw.2.2 q0 0 ha rfl hin hdg (fun H1 locs1 h1 h2 h3 => kk H1 locs1 ⟨hws ▸ h1, hws ▸ h2, h3⟩)
theorem x_zast (C0 : CX p s m args meth c cc nL rt own nm D ca tp A) (hw : WH D A s ws H locs) (q0 : Nat) {n : Nat} {f : Nat → Int32} (ha : ws[q0]? = some (a, .inl (ca 2, n, .inl f))) {i x : Int32} (hin : vp_in i n) {ws' : va_W} (hws : ws.set q0 (a, .inl (ca 2, n, .inl (upd f i.toNatClampNeg (vp_nar .boolean x)))) = ws') (hdg : decode cc pc = .ok (.bastore, 1))
    (kk : ∀ (H1 : Heap) (locs1 : List Loc), WH D A s ws' H1 locs1 → W p l e R s m args below meth c H1 locs1 cells slots Q (F0 m (pc + 1) ls rest)) : W p l e R s m args below meth c H locs cells slots Q (F0 m pc ls (.int x :: .int i :: .ref a :: rest)) :=
  va_zast C0.1 C0.2.1 C0.en.1 hw.1 hw.2.1 hw.2.2 q0 2 ha rfl hin hdg (fun H1 locs1 h1 h2 h3 => kk H1 locs1 ⟨hws ▸ h1, hws ▸ h2, h3⟩)
theorem x_bast (C0 : CX p s m args meth c cc nL rt own nm D ca tp A) (hw : WH D A s ws H locs) (q0 : Nat) {n : Nat} {f : Nat → Int32} (ha : ws[q0]? = some (a, .inl (ca 3, n, .inl f))) {i x : Int32} (hin : vp_in i n) {ws' : va_W} (hws : ws.set q0 (a, .inl (ca 3, n, .inl (upd f i.toNatClampNeg (vp_nar .byte x)))) = ws') (hdg : decode cc pc = .ok (.bastore, 1))
    (kk : ∀ (H1 : Heap) (locs1 : List Loc), WH D A s ws' H1 locs1 → W p l e R s m args below meth c H1 locs1 cells slots Q (F0 m (pc + 1) ls rest)) : W p l e R s m args below meth c H locs cells slots Q (F0 m pc ls (.int x :: .int i :: .ref a :: rest)) :=
  va_bast C0.1 C0.2.1 C0.en.1 hw.1 hw.2.1 hw.2.2 q0 3 ha rfl hin hdg (fun H1 locs1 h1 h2 h3 => kk H1 locs1 ⟨hws ▸ h1, hws ▸ h2, h3⟩)
theorem x_last (C0 : CX p s m args meth c cc nL rt own nm D ca tp A) (hw : WH D A s ws H locs) (q0 : Nat) {n : Nat} {f : Nat → Int64} (ha : ws[q0]? = some (a, .inl (ca 1, n, .inr (.inl f)))) {i : Int32} {x : Int64} (hin : vp_in i n) {ws' : va_W} (hws : ws.set q0 (a, .inl (ca 1, n, .inr (.inl (vp_updL f i.toNatClampNeg x)))) = ws') (hdg : decode cc pc = .ok (.lastore, 1))
    (kk : ∀ (H1 : Heap) (locs1 : List Loc), WH D A s ws' H1 locs1 → W p l e R s m args below meth c H1 locs1 cells slots Q (F0 m (pc + 1) ls rest)) : W p l e R s m args below meth c H locs cells slots Q (F0 m pc ls (.long x :: .int i :: .ref a :: rest)) :=
  va_last C0.1 C0.2.1 C0.en.1 hw.1 hw.2.1 hw.2.2 q0 1 ha rfl hin hdg (fun H1 locs1 h1 h2 h3 => kk H1 locs1 ⟨hws ▸ h1, hws ▸ h2, h3⟩)
theorem x_alen (C0 : CX p s m args meth c cc nL rt own nm D ca tp A) (hw : WH D A s ws H locs) (q0 t0 : Nat) {cA : ClassId} {x : vp_A} (ha : ws[q0]? = some (a, .inl (cA, x))) {ty : FieldType} (ht : (TYS ca)[t0]? = some (cA, ty)) {v : Int32} (hv : Int32.ofNat x.1 = v) (hdg : decode cc pc = .ok (.arraylength, 1))
    (kk : W p l e R s m args below meth c H locs cells slots Q (F0 m (pc + 1) ls (.int v :: rest))) : W p l e R s m args below meth c H locs cells slots Q (F0 m pc ls (.ref a :: rest)) :=
  va_alen C0.1 C0.2.1 C0.en.1 hw.1 q0 t0 ha ht hv hdg kk
theorem x_pats (C0 : CX p s m args meth c cc nL rt own nm D ca tp A) (hw : WH D A s ws H locs) {index : Nat} (hlink : Cond.fieldLink own index R_U "PATTERNS" "[J" ∈ gw_tbl) (hdg : decode cc pc = .ok (.getstatic index, 3))
    (kk : W p l e R s m args below meth c H locs cells slots Q (F0 m (pc + 3) ls (.ref tp :: rest))) : W p l e R s m args below meth c H locs cells slots Q (F0 m pc ls rest) :=
  va_gets C0.1 C0.2.1 C0.en.2.2.1 hw.2.2 C0.ho (C0.ts _ hlink) (fun _ h => h) hdg kk
theorem x_pat (C0 : CX p s m args meth c cc nL rt own nm D ca tp A) (hw : WH D A s ws H locs) {i : Int32} (hin : vp_in i 6) (hdg : decode cc pc = .ok (.laload, 1))
    (kk : W p l e R s m args below meth c H locs cells slots Q (F0 m (pc + 1) ls (.long (pt6 i.toNatClampNeg) :: rest))) : W p l e R s m args below meth c H locs cells slots Q (F0 m pc ls (.int i :: .ref tp :: rest)) :=
  va_tl C0.1 C0.2.1 C0.en.2.2.2 hw.2.2 hin (v := .long (pt6 i.toNatClampNeg)) rfl hdg kk
theorem x_ldc2 (C0 : CX p s m args meth c cc nL rt own nm D ca tp A) {index : Nat} {v : Int64} (hlink : Cond.constantLong own index v ∈ gw_tbl) (hdg : decode cc pc = .ok (.ldc2_w index, 3))
    (k : W p l e R s m args below meth c H locs cells slots Q (F0 m (pc + 3) ls (.long v :: rest))) : W p l e R s m args below meth c H locs cells slots Q (F0 m pc ls rest) :=
  lv_ldc2 C0.1 C0.2.1 C0.ho (C0.ts _ hlink) hdg k
/-! returns -/
theorem x_iret {S : Type} {post : Int32 → S → Prop} {W' : S → va_W} {v : Int32} (C0 : CX p s m args meth c cc nL (some .int) own nm D ca tp A) (hw : WH D A s ws H locs) (u : S) (hk : post v u) (hws : ws = W' u) (hdg : decode cc pc = .ok (.ireturn, 1)) :
    W p l e R s m args below meth c H locs cells slots (QI D A below args s post W' cells slots) (F0 m pc ls [.int v]) :=
  W.iret C0.1 C0.2.1 C0.hr (fun t ht hW => ⟨⟨v, u, rfl, hk, by rw [ht]; exact hws ▸ hw.1, hws ▸ hw.2.1⟩, hw.2.2.F ht⟩) hw.2.2.2.2 hdg C0.lk
theorem x_zret {S : Type} {post : Int32 → S → Prop} {W' : S → va_W} {v : Int32} (C0 : CX p s m args meth c cc nL (some .boolean) own nm D ca tp A) (hw : WH D A s ws H locs) (hn : narrow .boolean (.int v) = .int v) (u : S) (hk : post v u) (hws : ws = W' u) (hdg : decode cc pc = .ok (.ireturn, 1)) :
    W p l e R s m args below meth c H locs cells slots (QI D A below args s post W' cells slots) (F0 m pc ls [.int v]) :=
  W.zret C0.1 C0.2.1 C0.hr hn (fun t ht hW => ⟨⟨v, u, rfl, hk, by rw [ht]; exact hws ▸ hw.1, hws ▸ hw.2.1⟩, hw.2.2.F ht⟩) hw.2.2.2.2 hdg C0.lk
theorem x_lret {S : Type} {post : Int64 → S → Prop} {W' : S → va_W} {v : Int64} (C0 : CX p s m args meth c cc nL (some .long) own nm D ca tp A) (hw : WH D A s ws H locs) (u : S) (hk : post v u) (hws : ws = W' u) (hdg : decode cc pc = .ok (.lreturn, 1)) :
    W p l e R s m args below meth c H locs cells slots (QL D A below args s post W' cells slots) (F0 m pc ls [.long v]) :=
  W.lret C0.1 C0.2.1 C0.hr (fun t ht hW => ⟨⟨v, u, rfl, hk, by rw [ht]; exact hws ▸ hw.1, hws ▸ hw.2.1⟩, hw.2.2.F ht⟩) hw.2.2.2.2 hdg C0.lk
theorem x_vret {S : Type} {post : S → Prop} {W' : S → va_W} (C0 : CX p s m args meth c cc nL none own nm D ca tp A) (hw : WH D A s ws H locs) (u : S) (hk : post u) (hws : ws = W' u) (hdg : decode cc pc = .ok (.return_, 1)) :
    W p l e R s m args below meth c H locs cells slots (QV D A below args s post W' cells slots) (F0 m pc ls []) :=
  W.vret C0.1 C0.2.1 C0.hr (fun t ht hW => ⟨⟨u, rfl, hk, by rw [ht]; exact hws ▸ hw.1, hws ▸ hw.2.1⟩, hw.2.2.F ht⟩) hw.2.2.2.2 hdg C0.lk
/-! calls -/
def GY (y : MethodName) (cc : ByteArray) (nL : Nat) (rt : Option FieldType) (n : Nat) : Prop :=
  Cond.code y cc nL rt ∈ gw_tbl ∧ Cond.initialized y.cls ∈ gw_tbl ∧ y.cls ≠ "java/lang/invoke/MethodHandle" ∧ y.cls ≠ "java/lang/invoke/VarHandle" ∧ (parseMethodDescriptor y.desc).map (fun d => d.parameters.length) = some n
theorem GY.good {y : MethodName} {b : ByteArray} {k n : Nat} {rt' : Option FieldType} (G : GY y b k rt' n) : GoodIn gw_tbl (CW y b k rt') := by
  intro w hw
  have h : w ∈ gw_tbl := (List.mem_cons.mp hw).elim (fun e => e ▸ G.1) id
  exact ⟨h, good_of_word (List.mem_filter.mp h).2⟩
variable {y : MethodName} {b' : ByteArray} {k' n mc ms index : Nat} {rt' : Option FieldType} {rm : Room} {As st0 : List Value} {b : Nat} {lv : List (Nat × Value)} {Qc : Nat → Array Value → State → Outcome → State → Prop}
theorem PC.blind {av : List Value} {sz : Nat} : FrameBlind (PC D ca tp av ws sz) := fun a U g mk q => by
  obtain ⟨q0, q1, qE, qP, qD⟩ := q
  exact ⟨q0, q1, EN.same (u := U) (U := U.calling g mk a) rfl (Vm.Alike.refl U.vm) qE, qP, qD⟩
theorem PC.of {av : List Value} (C0 : CX p s m args meth c cc nL rt own nm D ca tp A) (hw : WH D A s ws H locs) (U : State) (hU : U.heap = H) (hW : s.WarmedH U.vm) : PC D ca tp av ws H.size av.toArray U :=
  ⟨rfl, by rw [hU], EN.call C0.en hw.2.2 (WH.fr C0 hw) hU hW, by rw [hU]; exact hw.1, hw.2.1.weaken (fun _ _ _ _ => trivial)⟩
theorem x_runV (C0 : CX p s m args meth c cc nL rt own nm D ca tp A) (hw : WH D A s ws H locs) (hl : lv_has ls nL lv) (hM : ∀ sz : Nat, Met l y (CW y b' k' rt') rm (PC D ca tp (.ref b :: As) ws sz) (Qc sz) mc ms (va_A ws sz)) (G : GY y b' k' rt' n) (hlink : Cond.methodLink own index y ∈ gw_tbl) (hsel : Cond.selects y.cls y y ∈ gw_tbl ∧ Cond.instanceMethod y ∈ gw_tbl) (q0 : Nat) {ci : Nat} {q : vw_C} {fs : List Value} (he : ws[q0]? = some (b, .inr (ci, fs))) (hc : classes[ci]? = some q) (hq : q.1 = y.cls) (hn : As.length = n) (hst : st0 = As.reverse ++ .ref b :: rest) (hW : (rest.map fun v => v.category).sum ≤ 8) (h0 : rm.cells = mc ∧ rm.slots = ms) (hR : rm.frames + 1 ≤ R.frames ∧ 8 + (k' + 11) + rm.locals ≤ R.locals) (hf : cells + mc ≤ R.cells ∧ slots + ms ≤ R.slots) (hdg : decode cc pc = .ok (.invokevirtual index, 3)) :
    va_Run p l e R s m args below meth c H locs cells slots mc ms (F0 m pc ls st0) rest (Qc H.size (Value.ref b :: As).toArray) (va_A ws H.size) :=
  va_runV ⟨C0.1, C0.2.1, C0.2.2.1, C0.ho, C0.ts⟩ (hM H.size) (C := y.cls) ⟨callB_of n C0.ts G.good rfl h0.1 h0.2 (C0.ts _ G.2.1) (C0.ts _ hlink) G.2.2 hR, C0.ts _ hsel.2, C0.ts _ hsel.1⟩
    ⟨PC.blind, hq ▸ va_recv C0.en.1 hw.1 hc he, fun U hU hW => PC.of C0 hw U hU hW⟩ rfl hn hl.1 hst (lv_room hW) hdg hf
theorem x_runS (C0 : CX p s m args meth c cc nL rt own nm D ca tp A) (hw : WH D A s ws H locs) (hl : lv_has ls nL lv) (hM : ∀ sz : Nat, Met l y (CW y b' k' rt') rm (PC D ca tp As ws sz) (Qc sz) mc ms (va_A ws sz)) (G : GY y b' k' rt' n) (hlink : Cond.methodLink own index y ∈ gw_tbl) (hsel : Cond.static y ∈ gw_tbl) (hn : As.length = n) (hst : st0 = As.reverse ++ rest) (hW : (rest.map fun v => v.category).sum ≤ 8) (h0 : rm.cells = mc ∧ rm.slots = ms) (hR : rm.frames + 1 ≤ R.frames ∧ 8 + (k' + 11) + rm.locals ≤ R.locals) (hf : cells + mc ≤ R.cells ∧ slots + ms ≤ R.slots) (hdg : decode cc pc = .ok (.invokestatic index, 3)) :
    va_Run p l e R s m args below meth c H locs cells slots mc ms (F0 m pc ls st0) rest (Qc H.size As.toArray) (va_A ws H.size) :=
  va_runS ⟨C0.1, C0.2.1, C0.2.2.1, C0.ho, C0.ts⟩ (hM H.size) ⟨callB_of n C0.ts G.good rfl h0.1 h0.2 (C0.ts _ G.2.1) (C0.ts _ hlink) G.2.2 hR, C0.ts _ hsel⟩
    ⟨PC.blind, fun U hU hW => PC.of C0 hw U hU hW⟩ rfl hn hl.1 hst (lv_room hW) hdg hf
theorem x_runSN {host : String} (C0 : CX p s m args meth c cc nL rt own nm D ca tp A) (hw : WH D A s ws H locs) (hl : lv_has ls nL lv) (hM : ∀ sz : Nat, Met l y (CW y b' k' rt') rm (PC D ca tp As ws sz) (Qc sz) mc ms (va_A ws sz)) (G : GY y b' k' rt' n) (hlink : Cond.methodLinkNest own index y host ∈ nw_tbl) (hsel : Cond.static y ∈ gw_tbl) (hn : As.length = n) (hst : st0 = As.reverse ++ rest) (hW : (rest.map fun v => v.category).sum ≤ 8) (h0 : rm.cells = mc ∧ rm.slots = ms) (hR : rm.frames + 1 ≤ R.frames ∧ 8 + (k' + 11) + rm.locals ≤ R.locals) (hf : cells + mc ≤ R.cells ∧ slots + ms ≤ R.slots) (hdg : decode cc pc = .ok (.invokestatic index, 3)) :
    va_Run p l e R s m args below meth c H locs cells slots mc ms (F0 m pc ls st0) rest (Qc H.size As.toArray) (va_A ws H.size) :=
  va_runSN ⟨C0.1, C0.2.1, C0.2.2.1, C0.ho, C0.ts⟩ (hM H.size) ⟨va_cnB n C0.ts G.good rfl h0.1 h0.2 (C0.en.2.1 _ hlink) (C0.ts _ G.2.1) G.2.2 hR, C0.ts _ hsel, trivial⟩
    ⟨PC.blind, fun U hU hW => PC.of C0 hw U hU hW⟩ rfl hn hl.1 hst (lv_room hW) hdg hf
theorem x_runI (C0 : CX p s m args meth c cc nL rt own nm D ca tp A) (hw : WH D A s ws H locs) (hl : lv_has ls nL lv) (hM : ∀ sz : Nat, Met l y (CW y b' k' none) rm (PC D ca tp (.ref b :: As) ws sz) (Qc sz) mc ms (va_A ws sz)) (G : GY y b' k' none n) (hlink : Cond.methodLink own index y ∈ gw_tbl) (hsel : Cond.instanceMethod y ∈ gw_tbl) (hy : y.name = "<init>") (hn : As.length = n) (hst : st0 = As.reverse ++ .ref b :: rest) (hW : (rest.map fun v => v.category).sum ≤ 8) (h0 : rm.cells = mc ∧ rm.slots = ms) (hR : rm.frames + 1 ≤ R.frames ∧ 8 + (k' + 11) + rm.locals ≤ R.locals) (hf : cells + mc ≤ R.cells ∧ slots + ms ≤ R.slots) (hdg : decode cc pc = .ok (.invokespecial index, 3)) :
    va_Run p l e R s m args below meth c H locs cells slots mc ms (F0 m pc ls st0) rest (Qc H.size (Value.ref b :: As).toArray) (va_A ws H.size) :=
  va_runI ⟨C0.1, C0.2.1, C0.2.2.1, C0.ho, C0.ts⟩ (hM H.size) ⟨callB_of n C0.ts G.good rfl h0.1 h0.2 (C0.ts _ G.2.1) (C0.ts _ hlink) G.2.2 hR, hy, C0.ts _ hsel⟩
    ⟨PC.blind, fun U hU hW => PC.of C0 hw U hU hW⟩ rfl hn hl.1 hst (lv_room hW) hdg hf
theorem x_runIN {host : String} (C0 : CX p s m args meth c cc nL rt own nm D ca tp A) (hw : WH D A s ws H locs) (hl : lv_has ls nL lv) (hM : ∀ sz : Nat, Met l y (CW y b' k' none) rm (PC D ca tp (.ref b :: As) ws sz) (Qc sz) mc ms (va_A ws sz)) (G : GY y b' k' none n) (hlink : Cond.methodLinkNest own index y host ∈ nw_tbl) (hsel : Cond.instanceMethod y ∈ gw_tbl) (hy : y.name = "<init>") (hn : As.length = n) (hst : st0 = As.reverse ++ .ref b :: rest) (hW : (rest.map fun v => v.category).sum ≤ 8) (h0 : rm.cells = mc ∧ rm.slots = ms) (hR : rm.frames + 1 ≤ R.frames ∧ 8 + (k' + 11) + rm.locals ≤ R.locals) (hf : cells + mc ≤ R.cells ∧ slots + ms ≤ R.slots) (hdg : decode cc pc = .ok (.invokespecial index, 3)) :
    va_Run p l e R s m args below meth c H locs cells slots mc ms (F0 m pc ls st0) rest (Qc H.size (Value.ref b :: As).toArray) (va_A ws H.size) :=
  va_runIN ⟨C0.1, C0.2.1, C0.2.2.1, C0.ho, C0.ts⟩ (hM H.size) ⟨va_cnB n C0.ts G.good rfl h0.1 h0.2 (C0.en.2.1 _ hlink) (C0.ts _ G.2.1) G.2.2 hR, hy, C0.ts _ hsel⟩
    ⟨PC.blind, fun U hU hW => PC.of C0 hw U hU hW⟩ rfl hn hl.1 hst (lv_room hW) hdg hf
theorem x_calli {S : Type} {post : Int32 → S → Prop} {W' : S → va_W} {av : Array Value} (C0 : CX p s m args meth c cc nL rt own nm D ca tp A) (hw : WH D A s ws H locs)
    (hr : va_Run p l e R s m args below meth c H locs cells slots mc ms (F0 m pc ls st0) rest (va_Qi post (BW D (va_A ws H.size) W') (va_A ws H.size) av) (va_A ws H.size))
    (kk : ∀ (r : Int32) (u : S) (H1 : Heap) (locs1 : List Loc), post r u → WH D A s (W' u) H1 locs1 → W p l e R s m args below meth c H1 locs1 (cells + mc) (slots + ms) Q (F0 m (pc + 3) ls (.int r :: rest))) : W p l e R s m args below meth c H locs cells slots Q (F0 m pc ls st0) :=
  va_calli hr hw.2.2 (fun q _ h => WH.fr C0 hw q h) (WH.fr C0 hw) (fun r u t H1 locs1 ht _ hp hB _ _ hS => kk r u H1 locs1 hp ⟨ht ▸ hB.1, hB.2.weaken (fun _ q _ h => WH.fr C0 hw q.1 h), hS⟩)
theorem x_calll {S : Type} {post : Int64 → S → Prop} {W' : S → va_W} {av : Array Value} (C0 : CX p s m args meth c cc nL rt own nm D ca tp A) (hw : WH D A s ws H locs)
    (hr : va_Run p l e R s m args below meth c H locs cells slots mc ms (F0 m pc ls st0) rest (va_Ql post (BW D (va_A ws H.size) W') (va_A ws H.size) av) (va_A ws H.size))
    (kk : ∀ (r : Int64) (u : S) (H1 : Heap) (locs1 : List Loc), post r u → WH D A s (W' u) H1 locs1 → W p l e R s m args below meth c H1 locs1 (cells + mc) (slots + ms) Q (F0 m (pc + 3) ls (.long r :: rest))) : W p l e R s m args below meth c H locs cells slots Q (F0 m pc ls st0) :=
  va_calll hr hw.2.2 (fun q _ h => WH.fr C0 hw q h) (WH.fr C0 hw) (fun r u t H1 locs1 ht _ hp hB _ _ hS => kk r u H1 locs1 hp ⟨ht ▸ hB.1, hB.2.weaken (fun _ q _ h => WH.fr C0 hw q.1 h), hS⟩)
theorem x_callv {S : Type} {post : S → Prop} {W' : S → va_W} {av : Array Value} (C0 : CX p s m args meth c cc nL rt own nm D ca tp A) (hw : WH D A s ws H locs)
    (hr : va_Run p l e R s m args below meth c H locs cells slots mc ms (F0 m pc ls st0) rest (va_Qv post (BW D (va_A ws H.size) W') (va_A ws H.size) av) (va_A ws H.size))
    (kk : ∀ (u : S) (H1 : Heap) (locs1 : List Loc), post u → WH D A s (W' u) H1 locs1 → W p l e R s m args below meth c H1 locs1 (cells + mc) (slots + ms) Q (F0 m (pc + 3) ls rest)) : W p l e R s m args below meth c H locs cells slots Q (F0 m pc ls st0) :=
  va_callv hr hw.2.2 (fun q _ h => WH.fr C0 hw q h) (WH.fr C0 hw) (fun u t H1 locs1 ht _ hp hB _ _ hS => kk u H1 locs1 hp ⟨ht ▸ hB.1, hB.2.weaken (fun _ q _ h => WH.fr C0 hw q.1 h), hS⟩)
end XR
/-! shifts by name -/
def J_iushr (x y : Int32) : Int32 := (x.toUInt32 >>> (y.toUInt32 &&& Int32.toUInt32 31)).toInt32
def J_lushr (x : Int64) (y : Int32) : Int64 := (x.toUInt64 >>> (y.toInt64.toUInt64 &&& Int64.toUInt64 63)).toInt64
def J_lshl (x : Int64) (y : Int32) : Int64 := x <<< (y.toInt64 &&& 63)
def J_lshr (x : Int64) (y : Int32) : Int64 := x >>> (y.toInt64 &&& 63)

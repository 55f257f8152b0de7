theorem g_M_isDigit : GY y_M_isDigit b_M_isDigit 1 (some .boolean) 1 := ⟨wm_846, wm_62, by decide +kernel, by decide +kernel, by decide +kernel⟩
def p_M_isDigit (x0 : Int32) (k : Int32 → Prop) : Prop :=
  ((x0 < (48 : Int32) → (k (0 : Int32))) ∧ (¬ x0 < (48 : Int32) → (((57 : Int32) < x0 → (k (0 : Int32))) ∧ (¬ (57 : Int32) < x0 → (k (1 : Int32))))))
abbrev rm_M_isDigit : Room := { frames := 0, cells := 0, slots := 0, locals := 0 }
set_option maxHeartbeats 4000000 in
set_option maxRecDepth 100000 in
theorem c_M_isDigit {l : Launch} {D : va_G} {ca : Nat → ClassId} {tp : Nat} {am : Nat → Nat} {M_clauses : Int32} {M_given : Int32} {M_end : Int32} {M_taped : Int32} {M_size : Int32} {M_at : Int32} {M_to : Int32} {M_sort : Int32} {M_worth : Int32} {M_faultKind : Int32} {M_faultPlace : Int32} {M_isTold : Int32} {M_nodes : Int32} {M_plain : Nat → Int32} {M_minus : Nat → Int32} {M_block : Nat → Int32} {M_left : Nat → Int32} {M_right : Nat → Int32} {M_pivot : Nat → Int32} {M_live : Nat → Int32} {M_needed : Nat → Int32} {M_label : Nat → Int32} {M_tape : Nat → Int32} {M_of : Nat → Int64} {M_kept : Nat → Int64} {M_had : Nat → Int32} {M_told : Nat → Int64} {M_first : Nat → Int64} {M_second : Nat → Int64} {M_node : Nat → Int64} {M_nodeVariable : Nat → Int32} {M_nodeLow : Nat → Int32} {M_nodeHigh : Nat → Int32} {M_wait : Nat → Int32} {x0 : Int32} {k : Int32 → Prop} (h : p_M_isDigit x0 k) :
    MTi l y_M_isDigit b_M_isDigit 1 (some .boolean) rm_M_isDigit D ca tp [.int x0] (WM am ca M_clauses M_given M_end M_taped M_size M_at M_to M_sort M_worth M_faultKind M_faultPlace M_isTold M_nodes M_plain M_minus M_block M_left M_right M_pivot M_live M_needed M_label M_tape M_of M_kept M_had M_told M_first M_second M_node M_nodeVariable M_nodeLow M_nodeHigh M_wait)
      (fun r (_ : Unit) => k r)
      (fun (_ : Unit) => WM am ca M_clauses M_given M_end M_taped M_size M_at M_to M_sort M_worth M_faultKind M_faultPlace M_isTold M_nodes M_plain M_minus M_block M_left M_right M_pivot M_live M_needed M_label M_tape M_of M_kept M_had M_told M_first M_second M_node M_nodeVariable M_nodeLow M_nodeHigh M_wait) 0 0 := by
  refine x_entryi (own := R_M) (nm := "isDigit") (by decide) rfl rfl (Nat.le_of_ble_eq_true rfl) (fun p e s m below meth c A ls C0 hw hl => ?_)
  have hx := C0.1
  have hb := C0.2.1
  have hl : lv_has ls 1 [(0, .int x0)] := hl
  unfold p_M_isDigit at h
  refine lv_iload_n hx hb d_M_isDigit_0 rfl (lv_at hl 0 rfl) ?_
  refine lv_bipush (v := 48) hx hb d_M_isDigit_1 (by decide) ?_
  refine lv_icmp_lt (tgt := 16) hx hb d_M_isDigit_3 (by decide) (fun c_1 => ?_) (fun c_1 => ?_)
  · have h := h.1 c_1
    refine lv_iconst (v := 0) hx hb d_M_isDigit_16 (by decide) ?_
    exact x_zret C0 hw rfl () h rfl d_M_isDigit_17
  · have h := h.2 c_1
    refine lv_iload_n hx hb d_M_isDigit_6 rfl (lv_at hl 0 rfl) ?_
    refine lv_bipush (v := 57) hx hb d_M_isDigit_7 (by decide) ?_
    refine lv_icmp_gt (tgt := 16) hx hb d_M_isDigit_9 (by decide) (fun c_2 => ?_) (fun c_2 => ?_)
    · have h := h.1 c_2
      refine lv_iconst (v := 0) hx hb d_M_isDigit_16 (by decide) ?_
      exact x_zret C0 hw rfl () h rfl d_M_isDigit_17
    · have h := h.2 c_2
      refine lv_iconst (v := 1) hx hb d_M_isDigit_12 (by decide) ?_
      refine lv_goto (tgt := 17) hx hb d_M_isDigit_13 (by decide) ?_
      exact x_zret C0 hw rfl () h rfl d_M_isDigit_17
theorem g_M_in : GY y_M_in b_M_in 3 (some .boolean) 3 := ⟨wm_893, wm_62, by decide +kernel, by decide +kernel, by decide +kernel⟩
def p_M_in (x0 : Int32) (x1 : Int32) (x2 : Int32) (k : Int32 → Prop) : Prop :=
  ((x0 < x1 → (k (0 : Int32))) ∧ (¬ x0 < x1 → ((x2 < x0 → (k (0 : Int32))) ∧ (¬ x2 < x0 → (k (1 : Int32))))))
abbrev rm_M_in : Room := { frames := 0, cells := 0, slots := 0, locals := 0 }
set_option maxHeartbeats 4000000 in
set_option maxRecDepth 100000 in
theorem c_M_in {l : Launch} {D : va_G} {ca : Nat → ClassId} {tp : Nat} {am : Nat → Nat} {M_clauses : Int32} {M_given : Int32} {M_end : Int32} {M_taped : Int32} {M_size : Int32} {M_at : Int32} {M_to : Int32} {M_sort : Int32} {M_worth : Int32} {M_faultKind : Int32} {M_faultPlace : Int32} {M_isTold : Int32} {M_nodes : Int32} {M_plain : Nat → Int32} {M_minus : Nat → Int32} {M_block : Nat → Int32} {M_left : Nat → Int32} {M_right : Nat → Int32} {M_pivot : Nat → Int32} {M_live : Nat → Int32} {M_needed : Nat → Int32} {M_label : Nat → Int32} {M_tape : Nat → Int32} {M_of : Nat → Int64} {M_kept : Nat → Int64} {M_had : Nat → Int32} {M_told : Nat → Int64} {M_first : Nat → Int64} {M_second : Nat → Int64} {M_node : Nat → Int64} {M_nodeVariable : Nat → Int32} {M_nodeLow : Nat → Int32} {M_nodeHigh : Nat → Int32} {M_wait : Nat → Int32} {x0 : Int32} {x1 : Int32} {x2 : Int32} {k : Int32 → Prop} (h : p_M_in x0 x1 x2 k) :
    MTi l y_M_in b_M_in 3 (some .boolean) rm_M_in D ca tp [.int x0, .int x1, .int x2] (WM am ca M_clauses M_given M_end M_taped M_size M_at M_to M_sort M_worth M_faultKind M_faultPlace M_isTold M_nodes M_plain M_minus M_block M_left M_right M_pivot M_live M_needed M_label M_tape M_of M_kept M_had M_told M_first M_second M_node M_nodeVariable M_nodeLow M_nodeHigh M_wait)
      (fun r (_ : Unit) => k r)
      (fun (_ : Unit) => WM am ca M_clauses M_given M_end M_taped M_size M_at M_to M_sort M_worth M_faultKind M_faultPlace M_isTold M_nodes M_plain M_minus M_block M_left M_right M_pivot M_live M_needed M_label M_tape M_of M_kept M_had M_told M_first M_second M_node M_nodeVariable M_nodeLow M_nodeHigh M_wait) 0 0 := by
  refine x_entryi (own := R_M) (nm := "in") (by decide) rfl rfl (Nat.le_of_ble_eq_true rfl) (fun p e s m below meth c A ls C0 hw hl => ?_)
  have hx := C0.1
  have hb := C0.2.1
  have hl : lv_has ls 3 [(0, .int x0), (1, .int x1), (2, .int x2)] := hl
  unfold p_M_in at h
  refine lv_iload_n hx hb d_M_in_0 rfl (lv_at hl 0 rfl) ?_
  refine lv_iload_n hx hb d_M_in_1 rfl (lv_at hl 1 rfl) ?_
  refine lv_icmp_lt (tgt := 14) hx hb d_M_in_2 (by decide) (fun c_1 => ?_) (fun c_1 => ?_)
  · have h := h.1 c_1
    refine lv_iconst (v := 0) hx hb d_M_in_14 (by decide) ?_
    exact x_zret C0 hw rfl () h rfl d_M_in_15
  · have h := h.2 c_1
    refine lv_iload_n hx hb d_M_in_5 rfl (lv_at hl 0 rfl) ?_
    refine lv_iload_n hx hb d_M_in_6 rfl (lv_at hl 2 rfl) ?_
    refine lv_icmp_gt (tgt := 14) hx hb d_M_in_7 (by decide) (fun c_2 => ?_) (fun c_2 => ?_)
    · have h := h.1 c_2
      refine lv_iconst (v := 0) hx hb d_M_in_14 (by decide) ?_
      exact x_zret C0 hw rfl () h rfl d_M_in_15
    · have h := h.2 c_2
      refine lv_iconst (v := 1) hx hb d_M_in_10 (by decide) ?_
      refine lv_goto (tgt := 15) hx hb d_M_in_11 (by decide) ?_
      exact x_zret C0 hw rfl () h rfl d_M_in_15
theorem g_M_word : GY y_M_word b_M_word 2 (some .long) 2 := ⟨wm_936, wm_62, by decide +kernel, by decide +kernel, by decide +kernel⟩
def p_M_word (x0 : Int32) (x1 : Int32) (k : Int64 → Prop) : Prop :=
  ((x0 = (1 : Int32) → (k (-6148914691236517206 : Int64))) ∧ (x0 = (2 : Int32) → (k (-3689348814741910324 : Int64))) ∧ (x0 = (3 : Int32) → (k (-1085102592571150096 : Int64))) ∧ (x0 = (4 : Int32) → (k (-71777214294589696 : Int64))) ∧ (x0 = (5 : Int32) → (k (-281470681808896 : Int64))) ∧ (x0 = (6 : Int32) → (k (-4294967296 : Int64))) ∧ (¬ x0 = (1 : Int32) → ¬ x0 = (2 : Int32) → ¬ x0 = (3 : Int32) → ¬ x0 = (4 : Int32) → ¬ x0 = (5 : Int32) → ¬ x0 = (6 : Int32) → ((((x1 >>> ((x0 - (7 : Int32)) &&& 31)) &&& (1 : Int32)) = 0 → (k (0 : Int64))) ∧ (¬ ((x1 >>> ((x0 - (7 : Int32)) &&& 31)) &&& (1 : Int32)) = 0 → (k (-1 : Int64))))))
abbrev rm_M_word : Room := { frames := 0, cells := 0, slots := 0, locals := 0 }
set_option maxHeartbeats 4000000 in
set_option maxRecDepth 100000 in
theorem c_M_word {l : Launch} {D : va_G} {ca : Nat → ClassId} {tp : Nat} {am : Nat → Nat} {M_clauses : Int32} {M_given : Int32} {M_end : Int32} {M_taped : Int32} {M_size : Int32} {M_at : Int32} {M_to : Int32} {M_sort : Int32} {M_worth : Int32} {M_faultKind : Int32} {M_faultPlace : Int32} {M_isTold : Int32} {M_nodes : Int32} {M_plain : Nat → Int32} {M_minus : Nat → Int32} {M_block : Nat → Int32} {M_left : Nat → Int32} {M_right : Nat → Int32} {M_pivot : Nat → Int32} {M_live : Nat → Int32} {M_needed : Nat → Int32} {M_label : Nat → Int32} {M_tape : Nat → Int32} {M_of : Nat → Int64} {M_kept : Nat → Int64} {M_had : Nat → Int32} {M_told : Nat → Int64} {M_first : Nat → Int64} {M_second : Nat → Int64} {M_node : Nat → Int64} {M_nodeVariable : Nat → Int32} {M_nodeLow : Nat → Int32} {M_nodeHigh : Nat → Int32} {M_wait : Nat → Int32} {x0 : Int32} {x1 : Int32} {k : Int64 → Prop} (h : p_M_word x0 x1 k) :
    MTl l y_M_word b_M_word 2 (some .long) rm_M_word D ca tp [.int x0, .int x1] (WM am ca M_clauses M_given M_end M_taped M_size M_at M_to M_sort M_worth M_faultKind M_faultPlace M_isTold M_nodes M_plain M_minus M_block M_left M_right M_pivot M_live M_needed M_label M_tape M_of M_kept M_had M_told M_first M_second M_node M_nodeVariable M_nodeLow M_nodeHigh M_wait)
      (fun r (_ : Unit) => k r)
      (fun (_ : Unit) => WM am ca M_clauses M_given M_end M_taped M_size M_at M_to M_sort M_worth M_faultKind M_faultPlace M_isTold M_nodes M_plain M_minus M_block M_left M_right M_pivot M_live M_needed M_label M_tape M_of M_kept M_had M_told M_first M_second M_node M_nodeVariable M_nodeLow M_nodeHigh M_wait) 0 0 := by
  refine x_entryl (own := R_M) (nm := "word") (by decide) rfl rfl (Nat.le_of_ble_eq_true rfl) (fun p e s m below meth c A ls C0 hw hl => ?_)
  have hx := C0.1
  have hb := C0.2.1
  have hl : lv_has ls 2 [(0, .int x0), (1, .int x1)] := hl
  unfold p_M_word at h
  refine lv_iload_n hx hb d_M_word_0 rfl (lv_at hl 0 rfl) ?_
  by_cases c_1 : x0 = (1 : Int32)
  · have h := h.1 c_1
    refine lv_tableIn (tgt := 40) (off := 39) hx hb d_M_word_1 (by rw [c_1]; decide) (by rw [c_1]; decide) (by rw [c_1]; rfl) (by decide) ?_
    refine x_ldc2 C0 wm_937 d_M_word_40 ?_
    exact x_lret C0 hw () h rfl d_M_word_43
  by_cases c_2 : x0 = (2 : Int32)
  · have h := h.2.1 c_2
    refine lv_tableIn (tgt := 44) (off := 43) hx hb d_M_word_1 (by rw [c_2]; decide) (by rw [c_2]; decide) (by rw [c_2]; rfl) (by decide) ?_
    refine x_ldc2 C0 wm_938 d_M_word_44 ?_
    exact x_lret C0 hw () h rfl d_M_word_47
  by_cases c_3 : x0 = (3 : Int32)
  · have h := h.2.2.1 c_3
    refine lv_tableIn (tgt := 48) (off := 47) hx hb d_M_word_1 (by rw [c_3]; decide) (by rw [c_3]; decide) (by rw [c_3]; rfl) (by decide) ?_
    refine x_ldc2 C0 wm_939 d_M_word_48 ?_
    exact x_lret C0 hw () h rfl d_M_word_51
  by_cases c_4 : x0 = (4 : Int32)
  · have h := h.2.2.2.1 c_4
    refine lv_tableIn (tgt := 52) (off := 51) hx hb d_M_word_1 (by rw [c_4]; decide) (by rw [c_4]; decide) (by rw [c_4]; rfl) (by decide) ?_
    refine x_ldc2 C0 wm_940 d_M_word_52 ?_
    exact x_lret C0 hw () h rfl d_M_word_55
  by_cases c_5 : x0 = (5 : Int32)
  · have h := h.2.2.2.2.1 c_5
    refine lv_tableIn (tgt := 56) (off := 55) hx hb d_M_word_1 (by rw [c_5]; decide) (by rw [c_5]; decide) (by rw [c_5]; rfl) (by decide) ?_
    refine x_ldc2 C0 wm_941 d_M_word_56 ?_
    exact x_lret C0 hw () h rfl d_M_word_59
  by_cases c_6 : x0 = (6 : Int32)
  · have h := h.2.2.2.2.2.1 c_6
    refine lv_tableIn (tgt := 60) (off := 59) hx hb d_M_word_1 (by rw [c_6]; decide) (by rw [c_6]; decide) (by rw [c_6]; rfl) (by decide) ?_
    refine x_ldc2 C0 wm_942 d_M_word_60 ?_
    exact x_lret C0 hw () h rfl d_M_word_63
  have h := h.2.2.2.2.2.2 c_1 c_2 c_3 c_4 c_5 c_6
  refine lv_tableOut (tgt := 64) hx hb d_M_word_1 (by have q0 := lv_neT c_1 (a := 1) rfl; have q1 := lv_neT c_2 (a := 2) rfl; have q2 := lv_neT c_3 (a := 3) rfl; have q3 := lv_neT c_4 (a := 4) rfl; have q4 := lv_neT c_5 (a := 5) rfl; have q5 := lv_neT c_6 (a := 6) rfl; omega) (by decide) ?_
  refine lv_iload_n hx hb d_M_word_64 rfl (lv_at hl 1 rfl) ?_
  refine lv_iload_n hx hb d_M_word_65 rfl (lv_at hl 0 rfl) ?_
  refine lv_bipush (v := 7) hx hb d_M_word_66 (by decide) ?_
  refine lv_isub hx hb d_M_word_68 ?_
  refine lv_ishr hx hb d_M_word_69 ?_
  refine lv_iconst (v := 1) hx hb d_M_word_70 (by decide) ?_
  refine lv_iand hx hb d_M_word_71 ?_
  refine lv_if_eq (tgt := 81) hx hb d_M_word_72 (by decide) (fun c_7 => ?_) (fun c_7 => ?_)
  · have h := h.1 c_7
    refine lv_lconst (v := 0) hx hb d_M_word_81 (by decide) ?_
    exact x_lret C0 hw () h rfl d_M_word_82
  · have h := h.2 c_7
    refine x_ldc2 C0 wm_943 d_M_word_75 ?_
    refine lv_goto (tgt := 82) hx hb d_M_word_78 (by decide) ?_
    exact x_lret C0 hw () h rfl d_M_word_82
theorem g_M_ones : GY y_M_ones b_M_ones 5 (some .int) 1 := ⟨wm_974, wm_62, by decide +kernel, by decide +kernel, by decide +kernel⟩
def p_M_ones_L4 (k : Int32 → Prop) : Nat → Int32 → Int64 → Prop
  | 0, _, _ => False
  | n + 1, x2, x3 =>
    (((lg_cmp x3 (0 : Int64)) = 0 → (k x2)) ∧ (¬ (lg_cmp x3 (0 : Int64)) = 0 → (p_M_ones_L4 k n (x2 + 1) (x3 &&& (x3 - (1 : Int64))))))
def p_M_ones (x0 : Int64) (k : Int32 → Prop) : Prop :=
  (∃ j_2, p_M_ones_L4 k j_2 (0 : Int32) x0)
abbrev rm_M_ones : Room := { frames := 0, cells := 0, slots := 0, locals := 0 }
set_option maxHeartbeats 4000000 in
set_option maxRecDepth 100000 in
theorem b_M_ones_L4 {p : Program} {l : Launch} {e : Env} {s : State} {m : MethodId} {args : Array Value} {below : List Frame} {meth : Method} {c : Code} {D : va_G} {ca : Nat → ClassId} {tp : Nat} {A : Nat → Prop} {am : Nat → Nat} {M_clauses : Int32} {M_given : Int32} {M_end : Int32} {M_taped : Int32} {M_size : Int32} {M_at : Int32} {M_to : Int32} {M_sort : Int32} {M_worth : Int32} {M_faultKind : Int32} {M_faultPlace : Int32} {M_isTold : Int32} {M_nodes : Int32} {M_plain : Nat → Int32} {M_minus : Nat → Int32} {M_block : Nat → Int32} {M_left : Nat → Int32} {M_right : Nat → Int32} {M_pivot : Nat → Int32} {M_live : Nat → Int32} {M_needed : Nat → Int32} {M_label : Nat → Int32} {M_tape : Nat → Int32} {M_of : Nat → Int64} {M_kept : Nat → Int64} {M_had : Nat → Int32} {M_told : Nat → Int64} {M_first : Nat → Int64} {M_second : Nat → Int64} {M_node : Nat → Int64} {M_nodeVariable : Nat → Int32} {M_nodeLow : Nat → Int32} {M_nodeHigh : Nat → Int32} {M_wait : Nat → Int32}  {k : Int32 → Prop}  (C0 : CX p s m args meth c b_M_ones 5 (some .int) R_M "ones" D ca tp A) :
    ∀ (n : Nat) (x2 : Int32) (x3 : Int64) {H : Heap} {locs : List Loc} {ls : Array Slot}, p_M_ones_L4 k n x2 x3 → WH D A s (WM am ca M_clauses M_given M_end M_taped M_size M_at M_to M_sort M_worth M_faultKind M_faultPlace M_isTold M_nodes M_plain M_minus M_block M_left M_right M_pivot M_live M_needed M_label M_tape M_of M_kept M_had M_told M_first M_second M_node M_nodeVariable M_nodeLow M_nodeHigh M_wait) H locs → lv_has ls 5 [(2, .int x2), (3, .long x3)] →
      W p l e rm_M_ones s m args below meth c H locs 0 0 (QI D A below args s (fun r (_ : Unit) => k r) (fun (_ : Unit) => WM am ca M_clauses M_given M_end M_taped M_size M_at M_to M_sort M_worth M_faultKind M_faultPlace M_isTold M_nodes M_plain M_minus M_block M_left M_right M_pivot M_live M_needed M_label M_tape M_of M_kept M_had M_told M_first M_second M_node M_nodeVariable M_nodeLow M_nodeHigh M_wait) 0 0) (F0 m 4 ls []) := by
  have hx := C0.1
  have hb := C0.2.1
  intro n
  induction n with
  | zero =>
    intro x2 x3 H locs ls h
    exact False.elim h
  | succ n ih =>
    intro x2 x3 H locs ls h hw hl
    unfold p_M_ones_L4 at h
    refine lv_lload_n hx hb d_M_ones_4 rfl (lv_at hl 1 rfl) ?_
    refine lv_lconst (v := 0) hx hb d_M_ones_5 (by decide) ?_
    refine W.lcmp hx hb d_M_ones_6 ?_
    refine lv_if_eq (tgt := 22) hx hb d_M_ones_7 (by decide) (fun c_1 => ?_) (fun c_1 => ?_)
    · have h := h.1 c_1
      refine lv_iload_n hx hb d_M_ones_22 rfl (lv_at hl 0 rfl) ?_
      exact x_iret C0 hw () h rfl d_M_ones_23
    · have h := h.2 c_1
      refine lv_iinc (v := (x2 + 1)) (lv' := [(2, .int (x2 + 1)), (3, .long x3)]) hx hb d_M_ones_10 hl (k := 0) rfl rfl (by decide) rfl (fun ls hl => ?_)
      refine lv_lload_n hx hb d_M_ones_13 rfl (lv_at hl 1 rfl) ?_
      refine lv_lload_n hx hb d_M_ones_14 rfl (lv_at hl 1 rfl) ?_
      refine lv_lconst (v := 1) hx hb d_M_ones_15 (by decide) ?_
      refine lv_lsub hx hb d_M_ones_16 ?_
      refine lv_land hx hb d_M_ones_17 ?_
      refine lv_lstore_n (lv' := [(3, .long (x3 &&& (x3 - (1 : Int64)))), (2, .int (x2 + 1))]) hx hb d_M_ones_18 rfl hl (by decide) rfl (fun ls hl => ?_)
      refine lv_goto (tgt := 4) hx hb d_M_ones_19 (by decide) ?_
      exact ih _ _ h hw (lv_sub hl [1, 0] rfl)
set_option maxHeartbeats 4000000 in
set_option maxRecDepth 100000 in
theorem c_M_ones {l : Launch} {D : va_G} {ca : Nat → ClassId} {tp : Nat} {am : Nat → Nat} {M_clauses : Int32} {M_given : Int32} {M_end : Int32} {M_taped : Int32} {M_size : Int32} {M_at : Int32} {M_to : Int32} {M_sort : Int32} {M_worth : Int32} {M_faultKind : Int32} {M_faultPlace : Int32} {M_isTold : Int32} {M_nodes : Int32} {M_plain : Nat → Int32} {M_minus : Nat → Int32} {M_block : Nat → Int32} {M_left : Nat → Int32} {M_right : Nat → Int32} {M_pivot : Nat → Int32} {M_live : Nat → Int32} {M_needed : Nat → Int32} {M_label : Nat → Int32} {M_tape : Nat → Int32} {M_of : Nat → Int64} {M_kept : Nat → Int64} {M_had : Nat → Int32} {M_told : Nat → Int64} {M_first : Nat → Int64} {M_second : Nat → Int64} {M_node : Nat → Int64} {M_nodeVariable : Nat → Int32} {M_nodeLow : Nat → Int32} {M_nodeHigh : Nat → Int32} {M_wait : Nat → Int32} {x0 : Int64} {k : Int32 → Prop} (h : p_M_ones x0 k) :
    MTi l y_M_ones b_M_ones 5 (some .int) rm_M_ones D ca tp [.long x0] (WM am ca M_clauses M_given M_end M_taped M_size M_at M_to M_sort M_worth M_faultKind M_faultPlace M_isTold M_nodes M_plain M_minus M_block M_left M_right M_pivot M_live M_needed M_label M_tape M_of M_kept M_had M_told M_first M_second M_node M_nodeVariable M_nodeLow M_nodeHigh M_wait)
      (fun r (_ : Unit) => k r)
      (fun (_ : Unit) => WM am ca M_clauses M_given M_end M_taped M_size M_at M_to M_sort M_worth M_faultKind M_faultPlace M_isTold M_nodes M_plain M_minus M_block M_left M_right M_pivot M_live M_needed M_label M_tape M_of M_kept M_had M_told M_first M_second M_node M_nodeVariable M_nodeLow M_nodeHigh M_wait) 0 0 := by
  refine x_entryi (own := R_M) (nm := "ones") (by decide) rfl rfl (Nat.le_of_ble_eq_true rfl) (fun p e s m below meth c A ls C0 hw hl => ?_)
  have hx := C0.1
  have hb := C0.2.1
  have hl : lv_has ls 5 [(0, .long x0)] := hl
  unfold p_M_ones at h
  refine lv_iconst (v := 0) hx hb d_M_ones_0 (by decide) ?_
  refine lv_istore_n (lv' := [(2, .int (0 : Int32)), (0, .long x0)]) hx hb d_M_ones_1 rfl hl (by decide) rfl (fun ls hl => ?_)
  refine lv_lload_n hx hb d_M_ones_2 rfl (lv_at hl 1 rfl) ?_
  refine lv_lstore_n (lv' := [(3, .long x0), (2, .int (0 : Int32)), (0, .long x0)]) hx hb d_M_ones_3 rfl hl (by decide) rfl (fun ls hl => ?_)
  obtain ⟨j_2, h⟩ := h
  refine b_M_ones_L4 C0 _ _ _ h hw (lv_sub hl [1, 0] rfl)
theorem g_M_feed : GY y_M_feed b_M_feed 9 (some .int) 5 := ⟨wm_831, wm_62, by decide +kernel, by decide +kernel, by decide +kernel⟩
def p_M_feed_L73 (x7 : Int32) (k109 : Int32 → (Nat → Int32) → Prop) : Nat → Int32 → Int32 → (Nat → Int32) → Prop
  | 0, _, _, _ => False
  | n + 1, x8, M_taped, M_tape =>
    ((x8 < 0 → (k109 M_taped M_tape)) ∧ (¬ x8 < 0 → (vp_in M_taped 2000 ∧ (p_M_feed_L73 x7 k109 n (x8 + (-8)) (M_taped + (1 : Int32)) (upd M_tape M_taped.toNatClampNeg (vp_nar .byte ((x7 >>> (x8 &&& 31)).toInt8.toInt32)))))))
def p_M_feed_J67 (k19 : Int32 → Int32 → (Nat → Int32) → Prop) (x1 : Int32) (x2 : Int32) (x3 : Int32) (x4 : Int32) (x5 : Int32) (x6 : Int32) (t0 : Int32) (M_taped : Int32) (M_tape : Nat → Int32) : Prop :=
  (∃ j_11, p_M_feed_L73 t0 (fun (M_taped_9 : Int32) (M_tape_10 : Nat → Int32) => (k19 (x6 + 1) M_taped_9 M_tape_10)) j_11 (24 : Int32) M_taped M_tape)
def p_M_feed_L19 (x1 : Int32) (x2 : Int32) (x3 : Int32) (x4 : Int32) (x5 : Int32) (k : Int32 → Int32 → (Nat → Int32) → Prop) : Nat → Int32 → Int32 → (Nat → Int32) → Prop
  | 0, _, _, _ => False
  | n + 1, x6, M_taped, M_tape =>
    (((5 : Int32) ≤ x6 → (k M_taped M_taped M_tape)) ∧ (¬ (5 : Int32) ≤ x6 → ((¬ x6 = 0 → ((¬ x6 = (1 : Int32) → ((¬ x6 = (2 : Int32) → ((¬ x6 = (3 : Int32) → (p_M_feed_J67 (p_M_feed_L19 x1 x2 x3 x4 x5 k n) x1 x2 x3 x4 x5 x6 x5 M_taped M_tape)) ∧ (x6 = (3 : Int32) → (p_M_feed_J67 (p_M_feed_L19 x1 x2 x3 x4 x5 k n) x1 x2 x3 x4 x5 x6 x4 M_taped M_tape)))) ∧ (x6 = (2 : Int32) → (p_M_feed_J67 (p_M_feed_L19 x1 x2 x3 x4 x5 k n) x1 x2 x3 x4 x5 x6 x3 M_taped M_tape)))) ∧ (x6 = (1 : Int32) → (p_M_feed_J67 (p_M_feed_L19 x1 x2 x3 x4 x5 k n) x1 x2 x3 x4 x5 x6 x2 M_taped M_tape)))) ∧ (x6 = 0 → (p_M_feed_J67 (p_M_feed_L19 x1 x2 x3 x4 x5 k n) x1 x2 x3 x4 x5 x6 x1 M_taped M_tape)))))
def p_M_feed (M_taped : Int32) (M_tape : Nat → Int32) (x1 : Int32) (x2 : Int32) (x3 : Int32) (x4 : Int32) (x5 : Int32) (k : Int32 → Int32 → (Nat → Int32) → Prop) : Prop :=
  (((M_taped + (20 : Int32)) ≤ (2000 : Int32) → (∃ j_12, p_M_feed_L19 x1 x2 x3 x4 x5 k j_12 (0 : Int32) M_taped M_tape)) ∧ (¬ (M_taped + (20 : Int32)) ≤ (2000 : Int32) → (k (-3 : Int32) M_taped M_tape)))
abbrev rm_M_feed : Room := { frames := 0, cells := 0, slots := 0, locals := 0 }
set_option maxHeartbeats 4000000 in
set_option maxRecDepth 100000 in
theorem b_M_feed_L73 {p : Program} {l : Launch} {e : Env} {s : State} {m : MethodId} {args : Array Value} {below : List Frame} {meth : Method} {c : Code} {D : va_G} {ca : Nat → ClassId} {tp : Nat} {A : Nat → Prop} {am : Nat → Nat} {M_clauses : Int32} {M_given : Int32} {M_end : Int32} {M_size : Int32} {M_at : Int32} {M_to : Int32} {M_sort : Int32} {M_worth : Int32} {M_faultKind : Int32} {M_faultPlace : Int32} {M_isTold : Int32} {M_nodes : Int32} {M_plain : Nat → Int32} {M_minus : Nat → Int32} {M_block : Nat → Int32} {M_left : Nat → Int32} {M_right : Nat → Int32} {M_pivot : Nat → Int32} {M_live : Nat → Int32} {M_needed : Nat → Int32} {M_label : Nat → Int32} {M_of : Nat → Int64} {M_kept : Nat → Int64} {M_had : Nat → Int32} {M_told : Nat → Int64} {M_first : Nat → Int64} {M_second : Nat → Int64} {M_node : Nat → Int64} {M_nodeVariable : Nat → Int32} {M_nodeLow : Nat → Int32} {M_nodeHigh : Nat → Int32} {M_wait : Nat → Int32} {x1 : Int32} {x2 : Int32} {x3 : Int32} {x4 : Int32} {x5 : Int32} {x6 : Int32} {x7 : Int32} {k : Int32 → Int32 → (Nat → Int32) → Prop} {k109 : Int32 → (Nat → Int32) → Prop} (C0 : CX p s m args meth c b_M_feed 9 (some .int) R_M "feed" D ca tp A) :
    ∀ (n : Nat) (x8 : Int32) (M_taped : Int32) (M_tape : Nat → Int32) {H : Heap} {locs : List Loc} {ls : Array Slot}, p_M_feed_L73 x7 k109 n x8 M_taped M_tape → WH D A s (WM am ca M_clauses M_given M_end M_taped M_size M_at M_to M_sort M_worth M_faultKind M_faultPlace M_isTold M_nodes M_plain M_minus M_block M_left M_right M_pivot M_live M_needed M_label M_tape M_of M_kept M_had M_told M_first M_second M_node M_nodeVariable M_nodeLow M_nodeHigh M_wait) H locs → lv_has ls 9 [(0, .ref (am 0)), (1, .int x1), (2, .int x2), (3, .int x3), (4, .int x4), (5, .int x5), (6, .int x6), (7, .int x7), (8, .int x8)] →
      (∀ (M_taped : Int32) (M_tape : Nat → Int32) (H : Heap) (locs : List Loc) (ls : Array Slot), k109 M_taped M_tape → WH D A s (WM am ca M_clauses M_given M_end M_taped M_size M_at M_to M_sort M_worth M_faultKind M_faultPlace M_isTold M_nodes M_plain M_minus M_block M_left M_right M_pivot M_live M_needed M_label M_tape M_of M_kept M_had M_told M_first M_second M_node M_nodeVariable M_nodeLow M_nodeHigh M_wait) H locs → lv_has ls 9 [(0, .ref (am 0)), (1, .int x1), (2, .int x2), (3, .int x3), (4, .int x4), (5, .int x5), (6, .int x6)] → W p l e rm_M_feed s m args below meth c H locs 0 0 (QI D A below args s (fun r (u : Int32 × (Nat → Int32)) => k r u.1 u.2) (fun (u : Int32 × (Nat → Int32)) => WM am ca M_clauses M_given M_end u.1 M_size M_at M_to M_sort M_worth M_faultKind M_faultPlace M_isTold M_nodes M_plain M_minus M_block M_left M_right M_pivot M_live M_needed M_label u.2 M_of M_kept M_had M_told M_first M_second M_node M_nodeVariable M_nodeLow M_nodeHigh M_wait) 0 0) (F0 m 109 ls [])) →
      W p l e rm_M_feed s m args below meth c H locs 0 0 (QI D A below args s (fun r (u : Int32 × (Nat → Int32)) => k r u.1 u.2) (fun (u : Int32 × (Nat → Int32)) => WM am ca M_clauses M_given M_end u.1 M_size M_at M_to M_sort M_worth M_faultKind M_faultPlace M_isTold M_nodes M_plain M_minus M_block M_left M_right M_pivot M_live M_needed M_label u.2 M_of M_kept M_had M_told M_first M_second M_node M_nodeVariable M_nodeLow M_nodeHigh M_wait) 0 0) (F0 m 73 ls []) := by
  have hx := C0.1
  have hb := C0.2.1
  intro n
  induction n with
  | zero =>
    intro x8 M_taped M_tape H locs ls h
    exact False.elim h
  | succ n ih =>
    intro x8 M_taped M_tape H locs ls h hw hl h109
    unfold p_M_feed_L73 at h
    refine lv_iload hx hb d_M_feed_73 (lv_at hl 8 rfl) ?_
    refine lv_if_lt (tgt := 109) hx hb d_M_feed_75 (by decide) (fun c_7 => ?_) (fun c_7 => ?_)
    · have h := h.1 c_7
      exact h109 _ _ _ _ _ h hw (lv_sub hl [0, 1, 2, 3, 4, 5, 6] rfl)
    · have h := h.2 c_7
      refine lv_aload_n hx hb d_M_feed_78 rfl (lv_at hl 0 rfl) ?_
      refine x_get C0 hw 0 rfl rfl i_M 12 (by decide) wm_737 rfl rfl d_M_feed_79 ?_
      refine lv_aload_n hx hb d_M_feed_82 rfl (lv_at hl 0 rfl) ?_
      refine x_get C0 hw 0 rfl rfl i_M 13 (by decide) wm_738 rfl rfl d_M_feed_83 ?_
      refine lv_iload hx hb d_M_feed_86 (lv_at hl 7 rfl) ?_
      refine lv_iload hx hb d_M_feed_88 (lv_at hl 8 rfl) ?_
      refine lv_ishr hx hb d_M_feed_90 ?_
      refine lv_i2b (v := ((x7 >>> (x8 &&& 31)).toInt8.toInt32)) hx hb d_M_feed_91 rfl ?_
      obtain ⟨hi_8, h⟩ := h
      refine x_bast C0 hw 10 rfl hi_8 (ws' := WM am ca M_clauses M_given M_end M_taped M_size M_at M_to M_sort M_worth M_faultKind M_faultPlace M_isTold M_nodes M_plain M_minus M_block M_left M_right M_pivot M_live M_needed M_label (upd M_tape M_taped.toNatClampNeg (vp_nar .byte ((x7 >>> (x8 &&& 31)).toInt8.toInt32))) M_of M_kept M_had M_told M_first M_second M_node M_nodeVariable M_nodeLow M_nodeHigh M_wait) rfl d_M_feed_92 (fun H locs hw => ?_)
      refine lv_aload_n hx hb d_M_feed_93 rfl (lv_at hl 0 rfl) ?_
      refine lv_dup hx hb d_M_feed_94 rfl ?_
      refine x_get C0 hw 0 rfl rfl i_M 13 (by decide) wm_738 rfl rfl d_M_feed_95 ?_
      refine lv_iconst (v := 1) hx hb d_M_feed_98 (by decide) ?_
      refine lv_iadd hx hb d_M_feed_99 ?_
      refine x_put C0 hw 0 rfl rfl i_M tk_M n_M 13 (by decide) wm_738 rfl rfl rfl rfl (Nat.le_of_ble_eq_true rfl) (ws' := WM am ca M_clauses M_given M_end (M_taped + (1 : Int32)) M_size M_at M_to M_sort M_worth M_faultKind M_faultPlace M_isTold M_nodes M_plain M_minus M_block M_left M_right M_pivot M_live M_needed M_label (upd M_tape M_taped.toNatClampNeg (vp_nar .byte ((x7 >>> (x8 &&& 31)).toInt8.toInt32))) M_of M_kept M_had M_told M_first M_second M_node M_nodeVariable M_nodeLow M_nodeHigh M_wait) rfl d_M_feed_100 (fun H locs hw => ?_)
      refine lv_iinc (v := (x8 + (-8))) (lv' := [(8, .int (x8 + (-8))), (0, .ref (am 0)), (1, .int x1), (2, .int x2), (3, .int x3), (4, .int x4), (5, .int x5), (6, .int x6), (7, .int x7)]) hx hb d_M_feed_103 hl (k := 8) rfl rfl (by decide) rfl (fun ls hl => ?_)
      refine lv_goto (tgt := 73) hx hb d_M_feed_106 (by decide) ?_
      exact ih _ _ _ h hw (lv_sub hl [1, 2, 3, 4, 5, 6, 7, 8, 0] rfl) h109
set_option maxHeartbeats 4000000 in
set_option maxRecDepth 100000 in
theorem b_M_feed_J67 {p : Program} {l : Launch} {e : Env} {s : State} {m : MethodId} {args : Array Value} {below : List Frame} {meth : Method} {c : Code} {D : va_G} {ca : Nat → ClassId} {tp : Nat} {A : Nat → Prop} {am : Nat → Nat} {M_clauses : Int32} {M_given : Int32} {M_end : Int32} {M_size : Int32} {M_at : Int32} {M_to : Int32} {M_sort : Int32} {M_worth : Int32} {M_faultKind : Int32} {M_faultPlace : Int32} {M_isTold : Int32} {M_nodes : Int32} {M_plain : Nat → Int32} {M_minus : Nat → Int32} {M_block : Nat → Int32} {M_left : Nat → Int32} {M_right : Nat → Int32} {M_pivot : Nat → Int32} {M_live : Nat → Int32} {M_needed : Nat → Int32} {M_label : Nat → Int32} {M_of : Nat → Int64} {M_kept : Nat → Int64} {M_had : Nat → Int32} {M_told : Nat → Int64} {M_first : Nat → Int64} {M_second : Nat → Int64} {M_node : Nat → Int64} {M_nodeVariable : Nat → Int32} {M_nodeLow : Nat → Int32} {M_nodeHigh : Nat → Int32} {M_wait : Nat → Int32}  {k : Int32 → Int32 → (Nat → Int32) → Prop} {k19 : Int32 → Int32 → (Nat → Int32) → Prop} (C0 : CX p s m args meth c b_M_feed 9 (some .int) R_M "feed" D ca tp A) :
    ∀ (x1 : Int32) (x2 : Int32) (x3 : Int32) (x4 : Int32) (x5 : Int32) (x6 : Int32) (t0 : Int32) (M_taped : Int32) (M_tape : Nat → Int32) {H : Heap} {locs : List Loc} {ls : Array Slot}, p_M_feed_J67 k19 x1 x2 x3 x4 x5 x6 t0 M_taped M_tape → WH D A s (WM am ca M_clauses M_given M_end M_taped M_size M_at M_to M_sort M_worth M_faultKind M_faultPlace M_isTold M_nodes M_plain M_minus M_block M_left M_right M_pivot M_live M_needed M_label M_tape M_of M_kept M_had M_told M_first M_second M_node M_nodeVariable M_nodeLow M_nodeHigh M_wait) H locs → lv_has ls 9 [(0, .ref (am 0)), (1, .int x1), (2, .int x2), (3, .int x3), (4, .int x4), (5, .int x5), (6, .int x6)] →
      (∀ (x6 : Int32) (M_taped : Int32) (M_tape : Nat → Int32) (H : Heap) (locs : List Loc) (ls : Array Slot), k19 x6 M_taped M_tape → WH D A s (WM am ca M_clauses M_given M_end M_taped M_size M_at M_to M_sort M_worth M_faultKind M_faultPlace M_isTold M_nodes M_plain M_minus M_block M_left M_right M_pivot M_live M_needed M_label M_tape M_of M_kept M_had M_told M_first M_second M_node M_nodeVariable M_nodeLow M_nodeHigh M_wait) H locs → lv_has ls 9 [(0, .ref (am 0)), (1, .int x1), (2, .int x2), (3, .int x3), (4, .int x4), (5, .int x5), (6, .int x6)] → W p l e rm_M_feed s m args below meth c H locs 0 0 (QI D A below args s (fun r (u : Int32 × (Nat → Int32)) => k r u.1 u.2) (fun (u : Int32 × (Nat → Int32)) => WM am ca M_clauses M_given M_end u.1 M_size M_at M_to M_sort M_worth M_faultKind M_faultPlace M_isTold M_nodes M_plain M_minus M_block M_left M_right M_pivot M_live M_needed M_label u.2 M_of M_kept M_had M_told M_first M_second M_node M_nodeVariable M_nodeLow M_nodeHigh M_wait) 0 0) (F0 m 19 ls [])) →
      W p l e rm_M_feed s m args below meth c H locs 0 0 (QI D A below args s (fun r (u : Int32 × (Nat → Int32)) => k r u.1 u.2) (fun (u : Int32 × (Nat → Int32)) => WM am ca M_clauses M_given M_end u.1 M_size M_at M_to M_sort M_worth M_faultKind M_faultPlace M_isTold M_nodes M_plain M_minus M_block M_left M_right M_pivot M_live M_needed M_label u.2 M_of M_kept M_had M_told M_first M_second M_node M_nodeVariable M_nodeLow M_nodeHigh M_wait) 0 0) (F0 m 67 ls [.int t0]) := by
  have hx := C0.1
  have hb := C0.2.1
  intro x1 x2 x3 x4 x5 x6 t0 M_taped M_tape H locs ls h hw hl h19
  unfold p_M_feed_J67 at h
  refine lv_istore (lv' := [(7, .int t0), (0, .ref (am 0)), (1, .int x1), (2, .int x2), (3, .int x3), (4, .int x4), (5, .int x5), (6, .int x6)]) hx hb d_M_feed_67 hl (by decide) rfl (fun ls hl => ?_)
  refine lv_bipush (v := 24) hx hb d_M_feed_69 (by decide) ?_
  refine lv_istore (lv' := [(8, .int (24 : Int32)), (7, .int t0), (0, .ref (am 0)), (1, .int x1), (2, .int x2), (3, .int x3), (4, .int x4), (5, .int x5), (6, .int x6)]) hx hb d_M_feed_71 hl (by decide) rfl (fun ls hl => ?_)
  obtain ⟨j_11, h⟩ := h
  refine b_M_feed_L73 C0 _ _ _ _ h hw (lv_sub hl [2, 3, 4, 5, 6, 7, 8, 1, 0] rfl) (fun M_taped_9 M_tape_10 H locs ls h hw hl => ?_)
  refine lv_iinc (v := (x6 + 1)) (lv' := [(6, .int (x6 + 1)), (0, .ref (am 0)), (1, .int x1), (2, .int x2), (3, .int x3), (4, .int x4), (5, .int x5)]) hx hb d_M_feed_109 hl (k := 6) rfl rfl (by decide) rfl (fun ls hl => ?_)
  refine lv_goto (tgt := 19) hx hb d_M_feed_112 (by decide) ?_
  exact h19 _ _ _ _ _ _ h hw (lv_sub hl [1, 2, 3, 4, 5, 6, 0] rfl)
set_option maxHeartbeats 4000000 in
set_option maxRecDepth 100000 in
theorem b_M_feed_L19 {p : Program} {l : Launch} {e : Env} {s : State} {m : MethodId} {args : Array Value} {below : List Frame} {meth : Method} {c : Code} {D : va_G} {ca : Nat → ClassId} {tp : Nat} {A : Nat → Prop} {am : Nat → Nat} {M_clauses : Int32} {M_given : Int32} {M_end : Int32} {M_size : Int32} {M_at : Int32} {M_to : Int32} {M_sort : Int32} {M_worth : Int32} {M_faultKind : Int32} {M_faultPlace : Int32} {M_isTold : Int32} {M_nodes : Int32} {M_plain : Nat → Int32} {M_minus : Nat → Int32} {M_block : Nat → Int32} {M_left : Nat → Int32} {M_right : Nat → Int32} {M_pivot : Nat → Int32} {M_live : Nat → Int32} {M_needed : Nat → Int32} {M_label : Nat → Int32} {M_of : Nat → Int64} {M_kept : Nat → Int64} {M_had : Nat → Int32} {M_told : Nat → Int64} {M_first : Nat → Int64} {M_second : Nat → Int64} {M_node : Nat → Int64} {M_nodeVariable : Nat → Int32} {M_nodeLow : Nat → Int32} {M_nodeHigh : Nat → Int32} {M_wait : Nat → Int32} {x1 : Int32} {x2 : Int32} {x3 : Int32} {x4 : Int32} {x5 : Int32} {k : Int32 → Int32 → (Nat → Int32) → Prop}  (C0 : CX p s m args meth c b_M_feed 9 (some .int) R_M "feed" D ca tp A) :
    ∀ (n : Nat) (x6 : Int32) (M_taped : Int32) (M_tape : Nat → Int32) {H : Heap} {locs : List Loc} {ls : Array Slot}, p_M_feed_L19 x1 x2 x3 x4 x5 k n x6 M_taped M_tape → WH D A s (WM am ca M_clauses M_given M_end M_taped M_size M_at M_to M_sort M_worth M_faultKind M_faultPlace M_isTold M_nodes M_plain M_minus M_block M_left M_right M_pivot M_live M_needed M_label M_tape M_of M_kept M_had M_told M_first M_second M_node M_nodeVariable M_nodeLow M_nodeHigh M_wait) H locs → lv_has ls 9 [(0, .ref (am 0)), (1, .int x1), (2, .int x2), (3, .int x3), (4, .int x4), (5, .int x5), (6, .int x6)] →
      W p l e rm_M_feed s m args below meth c H locs 0 0 (QI D A below args s (fun r (u : Int32 × (Nat → Int32)) => k r u.1 u.2) (fun (u : Int32 × (Nat → Int32)) => WM am ca M_clauses M_given M_end u.1 M_size M_at M_to M_sort M_worth M_faultKind M_faultPlace M_isTold M_nodes M_plain M_minus M_block M_left M_right M_pivot M_live M_needed M_label u.2 M_of M_kept M_had M_told M_first M_second M_node M_nodeVariable M_nodeLow M_nodeHigh M_wait) 0 0) (F0 m 19 ls []) := by
  have hx := C0.1
  have hb := C0.2.1
  intro n
  induction n with
  | zero =>
    intro x6 M_taped M_tape H locs ls h
    exact False.elim h
  | succ n ih =>
    intro x6 M_taped M_tape H locs ls h hw hl
    unfold p_M_feed_L19 at h
    refine lv_iload hx hb d_M_feed_19 (lv_at hl 6 rfl) ?_
    refine lv_iconst (v := 5) hx hb d_M_feed_21 (by decide) ?_
    refine lv_icmp_ge (tgt := 115) hx hb d_M_feed_22 (by decide) (fun c_2 => ?_) (fun c_2 => ?_)
    · have h := h.1 c_2
      refine lv_aload_n hx hb d_M_feed_115 rfl (lv_at hl 0 rfl) ?_
      refine x_get C0 hw 0 rfl rfl i_M 13 (by decide) wm_738 rfl rfl d_M_feed_116 ?_
      exact x_iret C0 hw (M_taped, M_tape) h rfl d_M_feed_119
    · have h := h.2 c_2
      refine lv_iload hx hb d_M_feed_25 (lv_at hl 6 rfl) ?_
      refine lv_if_ne (tgt := 34) hx hb d_M_feed_27 (by decide) (fun c_3 => ?_) (fun c_3 => ?_)
      · have h := h.1 c_3
        refine lv_iload hx hb d_M_feed_34 (lv_at hl 6 rfl) ?_
        refine lv_iconst (v := 1) hx hb d_M_feed_36 (by decide) ?_
        refine lv_icmp_ne (tgt := 44) hx hb d_M_feed_37 (by decide) (fun c_4 => ?_) (fun c_4 => ?_)
        · have h := h.1 c_4
          refine lv_iload hx hb d_M_feed_44 (lv_at hl 6 rfl) ?_
          refine lv_iconst (v := 2) hx hb d_M_feed_46 (by decide) ?_
          refine lv_icmp_ne (tgt := 54) hx hb d_M_feed_47 (by decide) (fun c_5 => ?_) (fun c_5 => ?_)
          · have h := h.1 c_5
            refine lv_iload hx hb d_M_feed_54 (lv_at hl 6 rfl) ?_
            refine lv_iconst (v := 3) hx hb d_M_feed_56 (by decide) ?_
            refine lv_icmp_ne (tgt := 65) hx hb d_M_feed_57 (by decide) (fun c_6 => ?_) (fun c_6 => ?_)
            · have h := h.1 c_6
              refine lv_iload hx hb d_M_feed_65 (lv_at hl 5 rfl) ?_
              refine b_M_feed_J67 C0 _ _ _ _ _ _ _ _ _ h hw (lv_sub hl [0, 1, 2, 3, 4, 5, 6] rfl) (fun _ _ _ H locs ls h hw hl => ih _ _ _ h hw hl)
            · have h := h.2 c_6
              refine lv_iload hx hb d_M_feed_60 (lv_at hl 4 rfl) ?_
              refine lv_goto (tgt := 67) hx hb d_M_feed_62 (by decide) ?_
              refine b_M_feed_J67 C0 _ _ _ _ _ _ _ _ _ h hw (lv_sub hl [0, 1, 2, 3, 4, 5, 6] rfl) (fun _ _ _ H locs ls h hw hl => ih _ _ _ h hw hl)
          · have h := h.2 c_5
            refine lv_iload_n hx hb d_M_feed_50 rfl (lv_at hl 3 rfl) ?_
            refine lv_goto (tgt := 67) hx hb d_M_feed_51 (by decide) ?_
            refine b_M_feed_J67 C0 _ _ _ _ _ _ _ _ _ h hw (lv_sub hl [0, 1, 2, 3, 4, 5, 6] rfl) (fun _ _ _ H locs ls h hw hl => ih _ _ _ h hw hl)
        · have h := h.2 c_4
          refine lv_iload_n hx hb d_M_feed_40 rfl (lv_at hl 2 rfl) ?_
          refine lv_goto (tgt := 67) hx hb d_M_feed_41 (by decide) ?_
          refine b_M_feed_J67 C0 _ _ _ _ _ _ _ _ _ h hw (lv_sub hl [0, 1, 2, 3, 4, 5, 6] rfl) (fun _ _ _ H locs ls h hw hl => ih _ _ _ h hw hl)
      · have h := h.2 c_3
        refine lv_iload_n hx hb d_M_feed_30 rfl (lv_at hl 1 rfl) ?_
        refine lv_goto (tgt := 67) hx hb d_M_feed_31 (by decide) ?_
        refine b_M_feed_J67 C0 _ _ _ _ _ _ _ _ _ h hw (lv_sub hl [0, 1, 2, 3, 4, 5, 6] rfl) (fun _ _ _ H locs ls h hw hl => ih _ _ _ h hw hl)
set_option maxHeartbeats 4000000 in
set_option maxRecDepth 100000 in
theorem c_M_feed {l : Launch} {D : va_G} {ca : Nat → ClassId} {tp : Nat} {am : Nat → Nat} {M_clauses : Int32} {M_given : Int32} {M_end : Int32} {M_taped : Int32} {M_size : Int32} {M_at : Int32} {M_to : Int32} {M_sort : Int32} {M_worth : Int32} {M_faultKind : Int32} {M_faultPlace : Int32} {M_isTold : Int32} {M_nodes : Int32} {M_plain : Nat → Int32} {M_minus : Nat → Int32} {M_block : Nat → Int32} {M_left : Nat → Int32} {M_right : Nat → Int32} {M_pivot : Nat → Int32} {M_live : Nat → Int32} {M_needed : Nat → Int32} {M_label : Nat → Int32} {M_tape : Nat → Int32} {M_of : Nat → Int64} {M_kept : Nat → Int64} {M_had : Nat → Int32} {M_told : Nat → Int64} {M_first : Nat → Int64} {M_second : Nat → Int64} {M_node : Nat → Int64} {M_nodeVariable : Nat → Int32} {M_nodeLow : Nat → Int32} {M_nodeHigh : Nat → Int32} {M_wait : Nat → Int32} {x1 : Int32} {x2 : Int32} {x3 : Int32} {x4 : Int32} {x5 : Int32} {k : Int32 → Int32 → (Nat → Int32) → Prop} (h : p_M_feed M_taped M_tape x1 x2 x3 x4 x5 k) :
    MTi l y_M_feed b_M_feed 9 (some .int) rm_M_feed D ca tp [.ref (am 0), .int x1, .int x2, .int x3, .int x4, .int x5] (WM am ca M_clauses M_given M_end M_taped M_size M_at M_to M_sort M_worth M_faultKind M_faultPlace M_isTold M_nodes M_plain M_minus M_block M_left M_right M_pivot M_live M_needed M_label M_tape M_of M_kept M_had M_told M_first M_second M_node M_nodeVariable M_nodeLow M_nodeHigh M_wait)
      (fun r (u : Int32 × (Nat → Int32)) => k r u.1 u.2)
      (fun (u : Int32 × (Nat → Int32)) => WM am ca M_clauses M_given M_end u.1 M_size M_at M_to M_sort M_worth M_faultKind M_faultPlace M_isTold M_nodes M_plain M_minus M_block M_left M_right M_pivot M_live M_needed M_label u.2 M_of M_kept M_had M_told M_first M_second M_node M_nodeVariable M_nodeLow M_nodeHigh M_wait) 0 0 := by
  refine x_entryi (own := R_M) (nm := "feed") (by decide) rfl rfl (Nat.le_of_ble_eq_true rfl) (fun p e s m below meth c A ls C0 hw hl => ?_)
  have hx := C0.1
  have hb := C0.2.1
  have hl : lv_has ls 9 [(0, .ref (am 0)), (1, .int x1), (2, .int x2), (3, .int x3), (4, .int x4), (5, .int x5)] := hl
  unfold p_M_feed at h
  refine lv_aload_n hx hb d_M_feed_0 rfl (lv_at hl 0 rfl) ?_
  refine x_get C0 hw 0 rfl rfl i_M 13 (by decide) wm_738 rfl rfl d_M_feed_1 ?_
  refine lv_bipush (v := 20) hx hb d_M_feed_4 (by decide) ?_
  refine lv_iadd hx hb d_M_feed_6 ?_
  refine lv_sipush (v := 2000) hx hb d_M_feed_7 (by decide) ?_
  refine lv_icmp_le (tgt := 16) hx hb d_M_feed_10 (by decide) (fun c_1 => ?_) (fun c_1 => ?_)
  · have h := h.1 c_1
    refine lv_iconst (v := 0) hx hb d_M_feed_16 (by decide) ?_
    refine lv_istore (lv' := [(6, .int (0 : Int32)), (0, .ref (am 0)), (1, .int x1), (2, .int x2), (3, .int x3), (4, .int x4), (5, .int x5)]) hx hb d_M_feed_17 hl (by decide) rfl (fun ls hl => ?_)
    obtain ⟨j_12, h⟩ := h
    refine b_M_feed_L19 C0 _ _ _ _ h hw (lv_sub hl [1, 2, 3, 4, 5, 6, 0] rfl)
  · have h := h.2 c_1
    refine lv_bipush (v := -3) hx hb d_M_feed_13 (by decide) ?_
    exact x_iret C0 hw (M_taped, M_tape) h rfl d_M_feed_15
theorem g_M_end_ : GY y_M_end_ b_M_end_ 2 (some .int) 1 := ⟨wm_835, wm_62, by decide +kernel, by decide +kernel, by decide +kernel⟩
def p_M_end_ (M_taped : Int32) (x1 : Int32) (k : Int32 → Int32 → Prop) : Prop :=
  ((x1 < 0 → (k (-1 : Int32) M_taped)) ∧ (¬ x1 < 0 → ((x1 ≤ M_taped → (k x1 x1)) ∧ (¬ x1 ≤ M_taped → (k (-1 : Int32) M_taped)))))
abbrev rm_M_end_ : Room := { frames := 0, cells := 0, slots := 0, locals := 0 }
set_option maxHeartbeats 4000000 in
set_option maxRecDepth 100000 in
theorem c_M_end_ {l : Launch} {D : va_G} {ca : Nat → ClassId} {tp : Nat} {am : Nat → Nat} {M_clauses : Int32} {M_given : Int32} {M_end : Int32} {M_taped : Int32} {M_size : Int32} {M_at : Int32} {M_to : Int32} {M_sort : Int32} {M_worth : Int32} {M_faultKind : Int32} {M_faultPlace : Int32} {M_isTold : Int32} {M_nodes : Int32} {M_plain : Nat → Int32} {M_minus : Nat → Int32} {M_block : Nat → Int32} {M_left : Nat → Int32} {M_right : Nat → Int32} {M_pivot : Nat → Int32} {M_live : Nat → Int32} {M_needed : Nat → Int32} {M_label : Nat → Int32} {M_tape : Nat → Int32} {M_of : Nat → Int64} {M_kept : Nat → Int64} {M_had : Nat → Int32} {M_told : Nat → Int64} {M_first : Nat → Int64} {M_second : Nat → Int64} {M_node : Nat → Int64} {M_nodeVariable : Nat → Int32} {M_nodeLow : Nat → Int32} {M_nodeHigh : Nat → Int32} {M_wait : Nat → Int32} {x1 : Int32} {k : Int32 → Int32 → Prop} (h : p_M_end_ M_taped x1 k) :
    MTi l y_M_end_ b_M_end_ 2 (some .int) rm_M_end_ D ca tp [.ref (am 0), .int x1] (WM am ca M_clauses M_given M_end M_taped M_size M_at M_to M_sort M_worth M_faultKind M_faultPlace M_isTold M_nodes M_plain M_minus M_block M_left M_right M_pivot M_live M_needed M_label M_tape M_of M_kept M_had M_told M_first M_second M_node M_nodeVariable M_nodeLow M_nodeHigh M_wait)
      (fun r (u : Int32) => k r u)
      (fun (u : Int32) => WM am ca M_clauses M_given M_end u M_size M_at M_to M_sort M_worth M_faultKind M_faultPlace M_isTold M_nodes M_plain M_minus M_block M_left M_right M_pivot M_live M_needed M_label M_tape M_of M_kept M_had M_told M_first M_second M_node M_nodeVariable M_nodeLow M_nodeHigh M_wait) 0 0 := by
  refine x_entryi (own := R_M) (nm := "end") (by decide) rfl rfl (Nat.le_of_ble_eq_true rfl) (fun p e s m below meth c A ls C0 hw hl => ?_)
  have hx := C0.1
  have hb := C0.2.1
  have hl : lv_has ls 2 [(0, .ref (am 0)), (1, .int x1)] := hl
  unfold p_M_end_ at h
  refine lv_iload_n hx hb d_M_end__0 rfl (lv_at hl 1 rfl) ?_
  refine lv_if_lt (tgt := 12) hx hb d_M_end__1 (by decide) (fun c_1 => ?_) (fun c_1 => ?_)
  · have h := h.1 c_1
    refine lv_iconst (v := -1) hx hb d_M_end__12 (by decide) ?_
    exact x_iret C0 hw M_taped h rfl d_M_end__13
  · have h := h.2 c_1
    refine lv_iload_n hx hb d_M_end__4 rfl (lv_at hl 1 rfl) ?_
    refine lv_aload_n hx hb d_M_end__5 rfl (lv_at hl 0 rfl) ?_
    refine x_get C0 hw 0 rfl rfl i_M 13 (by decide) wm_738 rfl rfl d_M_end__6 ?_
    refine lv_icmp_le (tgt := 14) hx hb d_M_end__9 (by decide) (fun c_2 => ?_) (fun c_2 => ?_)
    · have h := h.1 c_2
      refine lv_aload_n hx hb d_M_end__14 rfl (lv_at hl 0 rfl) ?_
      refine lv_iload_n hx hb d_M_end__15 rfl (lv_at hl 1 rfl) ?_
      refine x_put C0 hw 0 rfl rfl i_M tk_M n_M 13 (by decide) wm_738 rfl rfl rfl rfl (Nat.le_of_ble_eq_true rfl) (ws' := WM am ca M_clauses M_given M_end x1 M_size M_at M_to M_sort M_worth M_faultKind M_faultPlace M_isTold M_nodes M_plain M_minus M_block M_left M_right M_pivot M_live M_needed M_label M_tape M_of M_kept M_had M_told M_first M_second M_node M_nodeVariable M_nodeLow M_nodeHigh M_wait) rfl d_M_end__16 (fun H locs hw => ?_)
      refine lv_iload_n hx hb d_M_end__19 rfl (lv_at hl 1 rfl) ?_
      exact x_iret C0 hw x1 h rfl d_M_end__20
    · have h := h.2 c_2
      refine lv_iconst (v := -1) hx hb d_M_end__12 (by decide) ?_
      exact x_iret C0 hw M_taped h rfl d_M_end__13
theorem g_M_cut : GY y_M_cut b_M_cut 4 none 0 := ⟨wm_843, wm_62, by decide +kernel, by decide +kernel, by decide +kernel⟩
def p_M_cut_L5 (M_size : Int32) (M_tape : Nat → Int32) (k41 : Int32 → Prop) : Nat → Int32 → Prop
  | 0, _ => False
  | n + 1, x1 =>
    ((M_size ≤ x1 → (k41 x1)) ∧ (¬ M_size ≤ x1 → (vp_in x1 2000 ∧ (((M_tape x1.toNatClampNeg) = (32 : Int32) → (p_M_cut_L5 M_size M_tape k41 n (x1 + 1))) ∧ (¬ (M_tape x1.toNatClampNeg) = (32 : Int32) → ((¬ (M_tape x1.toNatClampNeg) = (10 : Int32) → (k41 x1)) ∧ ((M_tape x1.toNatClampNeg) = (10 : Int32) → (p_M_cut_L5 M_size M_tape k41 n (x1 + 1)))))))))
def p_M_cut_L133 (M_size : Int32) (M_tape : Nat → Int32) (x1 : Int32) (k198 : Int32 → Int32 → Prop) : Nat → Int32 → Int32 → Prop
  | 0, _, _ => False
  | n + 1, x3, M_worth =>
    ((M_size ≤ (x1 + x3) → (k198 x3 M_worth)) ∧ (¬ M_size ≤ (x1 + x3) → (vp_in (x1 + x3) 2000 ∧ (p_M_isDigit (M_tape (x1 + x3).toNatClampNeg) (fun (r_12 : Int32) => ((r_12 = 0 → (k198 x3 M_worth)) ∧ (¬ r_12 = 0 → (((3 : Int32) ≤ x3 → (p_M_cut_L133 M_size M_tape x1 k198 n (x3 + 1) M_worth)) ∧ (¬ (3 : Int32) ≤ x3 → (∀ v_worth_15 : Int32, v_worth_15 = ((((10 : Int32) * M_worth) + (M_tape (x1 + x3).toNatClampNeg)) - (48 : Int32)) → (p_M_cut_L133 M_size M_tape x1 k198 n (x3 + 1) v_worth_15)))))))))))
def p_M_cut_J41 (M_size : Int32) (M_tape : Nat → Int32) (k : Int32 → Int32 → Int32 → Int32 → Prop) (x1 : Int32) (M_at : Int32) (M_to : Int32) (M_sort : Int32) (M_worth : Int32) : Prop :=
  ((¬ x1 = M_size → (vp_in x1 2000 ∧ (p_M_isDigit (M_tape x1.toNatClampNeg) (fun (r_8 : Int32) => ((¬ r_8 = 0 → (∃ j_19, p_M_cut_L133 M_size M_tape x1 (fun (x3_16 : Int32) (M_worth_17 : Int32) => ((x3_16 ≤ (3 : Int32) → (k x1 (x1 + x3_16) (1 : Int32) M_worth_17)) ∧ (¬ x3_16 ≤ (3 : Int32) → (k x1 (x1 + x3_16) (0 : Int32) M_worth_17)))) j_19 (0 : Int32) (0 : Int32))) ∧ (r_8 = 0 → (((M_tape x1.toNatClampNeg) = (99 : Int32) → (k x1 (x1 + (1 : Int32)) (M_tape x1.toNatClampNeg) M_worth)) ∧ (¬ (M_tape x1.toNatClampNeg) = (99 : Int32) → (((M_tape x1.toNatClampNeg) = (114 : Int32) → (k x1 (x1 + (1 : Int32)) (M_tape x1.toNatClampNeg) M_worth)) ∧ (¬ (M_tape x1.toNatClampNeg) = (114 : Int32) → (((M_tape x1.toNatClampNeg) = (58 : Int32) → (k x1 (x1 + (1 : Int32)) (M_tape x1.toNatClampNeg) M_worth)) ∧ (¬ (M_tape x1.toNatClampNeg) = (58 : Int32) → (((M_tape x1.toNatClampNeg) = (59 : Int32) → (k x1 (x1 + (1 : Int32)) (M_tape x1.toNatClampNeg) M_worth)) ∧ (¬ (M_tape x1.toNatClampNeg) = (59 : Int32) → ((¬ (M_tape x1.toNatClampNeg) = (45 : Int32) → (k x1 (x1 + (1 : Int32)) (0 : Int32) M_worth)) ∧ ((M_tape x1.toNatClampNeg) = (45 : Int32) → (k x1 (x1 + (1 : Int32)) (M_tape x1.toNatClampNeg) M_worth))))))))))))))))) ∧ (x1 = M_size → (k x1 x1 (2 : Int32) M_worth)))
def p_M_cut (M_size : Int32) (M_at : Int32) (M_to : Int32) (M_sort : Int32) (M_worth : Int32) (M_tape : Nat → Int32) (k : Int32 → Int32 → Int32 → Int32 → Prop) : Prop :=
  (∃ j_25, p_M_cut_L5 M_size M_tape (fun (x1_5 : Int32) => (p_M_cut_J41 M_size M_tape k x1_5 M_at M_to M_sort M_worth)) j_25 M_to)
abbrev rm_M_cut : Room := { frames := 1, cells := 0, slots := 0, locals := 20 }
set_option maxHeartbeats 4000000 in
set_option maxRecDepth 100000 in
theorem b_M_cut_L5 {p : Program} {l : Launch} {e : Env} {s : State} {m : MethodId} {args : Array Value} {below : List Frame} {meth : Method} {c : Code} {D : va_G} {ca : Nat → ClassId} {tp : Nat} {A : Nat → Prop} {am : Nat → Nat} {M_clauses : Int32} {M_given : Int32} {M_end : Int32} {M_taped : Int32} {M_size : Int32} {M_at : Int32} {M_to : Int32} {M_sort : Int32} {M_worth : Int32} {M_faultKind : Int32} {M_faultPlace : Int32} {M_isTold : Int32} {M_nodes : Int32} {M_plain : Nat → Int32} {M_minus : Nat → Int32} {M_block : Nat → Int32} {M_left : Nat → Int32} {M_right : Nat → Int32} {M_pivot : Nat → Int32} {M_live : Nat → Int32} {M_needed : Nat → Int32} {M_label : Nat → Int32} {M_tape : Nat → Int32} {M_of : Nat → Int64} {M_kept : Nat → Int64} {M_had : Nat → Int32} {M_told : Nat → Int64} {M_first : Nat → Int64} {M_second : Nat → Int64} {M_node : Nat → Int64} {M_nodeVariable : Nat → Int32} {M_nodeLow : Nat → Int32} {M_nodeHigh : Nat → Int32} {M_wait : Nat → Int32}  {k : Int32 → Int32 → Int32 → Int32 → Prop} {k41 : Int32 → Prop} (C0 : CX p s m args meth c b_M_cut 4 none R_M "cut" D ca tp A) :
    ∀ (n : Nat) (x1 : Int32) {H : Heap} {locs : List Loc} {ls : Array Slot}, p_M_cut_L5 M_size M_tape k41 n x1 → WH D A s (WM am ca M_clauses M_given M_end M_taped M_size M_at M_to M_sort M_worth M_faultKind M_faultPlace M_isTold M_nodes M_plain M_minus M_block M_left M_right M_pivot M_live M_needed M_label M_tape M_of M_kept M_had M_told M_first M_second M_node M_nodeVariable M_nodeLow M_nodeHigh M_wait) H locs → lv_has ls 4 [(0, .ref (am 0)), (1, .int x1)] →
      (∀ (x1 : Int32) (H : Heap) (locs : List Loc) (ls : Array Slot), k41 x1 → WH D A s (WM am ca M_clauses M_given M_end M_taped M_size M_at M_to M_sort M_worth M_faultKind M_faultPlace M_isTold M_nodes M_plain M_minus M_block M_left M_right M_pivot M_live M_needed M_label M_tape M_of M_kept M_had M_told M_first M_second M_node M_nodeVariable M_nodeLow M_nodeHigh M_wait) H locs → lv_has ls 4 [(0, .ref (am 0)), (1, .int x1)] → W p l e rm_M_cut s m args below meth c H locs 0 0 (QV D A below args s (fun (u : Int32 × Int32 × Int32 × Int32) => k u.1 u.2.1 u.2.2.1 u.2.2.2) (fun (u : Int32 × Int32 × Int32 × Int32) => WM am ca M_clauses M_given M_end M_taped M_size u.1 u.2.1 u.2.2.1 u.2.2.2 M_faultKind M_faultPlace M_isTold M_nodes M_plain M_minus M_block M_left M_right M_pivot M_live M_needed M_label M_tape M_of M_kept M_had M_told M_first M_second M_node M_nodeVariable M_nodeLow M_nodeHigh M_wait) 0 0) (F0 m 41 ls [])) →
      W p l e rm_M_cut s m args below meth c H locs 0 0 (QV D A below args s (fun (u : Int32 × Int32 × Int32 × Int32) => k u.1 u.2.1 u.2.2.1 u.2.2.2) (fun (u : Int32 × Int32 × Int32 × Int32) => WM am ca M_clauses M_given M_end M_taped M_size u.1 u.2.1 u.2.2.1 u.2.2.2 M_faultKind M_faultPlace M_isTold M_nodes M_plain M_minus M_block M_left M_right M_pivot M_live M_needed M_label M_tape M_of M_kept M_had M_told M_first M_second M_node M_nodeVariable M_nodeLow M_nodeHigh M_wait) 0 0) (F0 m 5 ls []) := by
  have hx := C0.1
  have hb := C0.2.1
  intro n
  induction n with
  | zero =>
    intro x1 H locs ls h
    exact False.elim h
  | succ n ih =>
    intro x1 H locs ls h hw hl h41
    unfold p_M_cut_L5 at h
    refine lv_iload_n hx hb d_M_cut_5 rfl (lv_at hl 1 rfl) ?_
    refine lv_aload_n hx hb d_M_cut_6 rfl (lv_at hl 0 rfl) ?_
    refine x_get C0 hw 0 rfl rfl i_M 14 (by decide) wm_739 rfl rfl d_M_cut_7 ?_
    refine lv_icmp_ge (tgt := 41) hx hb d_M_cut_10 (by decide) (fun c_1 => ?_) (fun c_1 => ?_)
    · have h := h.1 c_1
      exact h41 _ _ _ _ h hw (lv_sub hl [0, 1] rfl)
    · have h := h.2 c_1
      refine lv_aload_n hx hb d_M_cut_13 rfl (lv_at hl 0 rfl) ?_
      refine x_get C0 hw 0 rfl rfl i_M 12 (by decide) wm_737 rfl rfl d_M_cut_14 ?_
      refine lv_iload_n hx hb d_M_cut_17 rfl (lv_at hl 1 rfl) ?_
      obtain ⟨hi_2, h⟩ := h
      refine x_bald C0 hw 10 rfl hi_2 d_M_cut_18 ?_
      refine lv_bipush (v := 32) hx hb d_M_cut_19 (by decide) ?_
      refine lv_icmp_eq (tgt := 35) hx hb d_M_cut_21 (by decide) (fun c_3 => ?_) (fun c_3 => ?_)
      · have h := h.1 c_3
        refine lv_iinc (v := (x1 + 1)) (lv' := [(1, .int (x1 + 1)), (0, .ref (am 0))]) hx hb d_M_cut_35 hl (k := 1) rfl rfl (by decide) rfl (fun ls hl => ?_)
        refine lv_goto (tgt := 5) hx hb d_M_cut_38 (by decide) ?_
        exact ih _ h hw (lv_sub hl [1, 0] rfl) h41
      · have h := h.2 c_3
        refine lv_aload_n hx hb d_M_cut_24 rfl (lv_at hl 0 rfl) ?_
        refine x_get C0 hw 0 rfl rfl i_M 12 (by decide) wm_737 rfl rfl d_M_cut_25 ?_
        refine lv_iload_n hx hb d_M_cut_28 rfl (lv_at hl 1 rfl) ?_
        refine x_bald C0 hw 10 rfl hi_2 d_M_cut_29 ?_
        refine lv_bipush (v := 10) hx hb d_M_cut_30 (by decide) ?_
        refine lv_icmp_ne (tgt := 41) hx hb d_M_cut_32 (by decide) (fun c_4 => ?_) (fun c_4 => ?_)
        · have h := h.1 c_4
          exact h41 _ _ _ _ h hw (lv_sub hl [0, 1] rfl)
        · have h := h.2 c_4
          refine lv_iinc (v := (x1 + 1)) (lv' := [(1, .int (x1 + 1)), (0, .ref (am 0))]) hx hb d_M_cut_35 hl (k := 1) rfl rfl (by decide) rfl (fun ls hl => ?_)
          refine lv_goto (tgt := 5) hx hb d_M_cut_38 (by decide) ?_
          exact ih _ h hw (lv_sub hl [1, 0] rfl) h41
set_option maxHeartbeats 4000000 in
set_option maxRecDepth 100000 in
theorem b_M_cut_L133 {p : Program} {l : Launch} {e : Env} {s : State} {m : MethodId} {args : Array Value} {below : List Frame} {meth : Method} {c : Code} {D : va_G} {ca : Nat → ClassId} {tp : Nat} {A : Nat → Prop} {am : Nat → Nat} {M_clauses : Int32} {M_given : Int32} {M_end : Int32} {M_taped : Int32} {M_size : Int32} {M_at : Int32} {M_to : Int32} {M_sort : Int32} {M_faultKind : Int32} {M_faultPlace : Int32} {M_isTold : Int32} {M_nodes : Int32} {M_plain : Nat → Int32} {M_minus : Nat → Int32} {M_block : Nat → Int32} {M_left : Nat → Int32} {M_right : Nat → Int32} {M_pivot : Nat → Int32} {M_live : Nat → Int32} {M_needed : Nat → Int32} {M_label : Nat → Int32} {M_tape : Nat → Int32} {M_of : Nat → Int64} {M_kept : Nat → Int64} {M_had : Nat → Int32} {M_told : Nat → Int64} {M_first : Nat → Int64} {M_second : Nat → Int64} {M_node : Nat → Int64} {M_nodeVariable : Nat → Int32} {M_nodeLow : Nat → Int32} {M_nodeHigh : Nat → Int32} {M_wait : Nat → Int32} {x1 : Int32} {k : Int32 → Int32 → Int32 → Int32 → Prop} {k198 : Int32 → Int32 → Prop} (C0 : CX p s m args meth c b_M_cut 4 none R_M "cut" D ca tp A) :
    ∀ (n : Nat) (x3 : Int32) (M_worth : Int32) {H : Heap} {locs : List Loc} {ls : Array Slot}, p_M_cut_L133 M_size M_tape x1 k198 n x3 M_worth → WH D A s (WM am ca M_clauses M_given M_end M_taped M_size M_at M_to M_sort M_worth M_faultKind M_faultPlace M_isTold M_nodes M_plain M_minus M_block M_left M_right M_pivot M_live M_needed M_label M_tape M_of M_kept M_had M_told M_first M_second M_node M_nodeVariable M_nodeLow M_nodeHigh M_wait) H locs → lv_has ls 4 [(0, .ref (am 0)), (1, .int x1), (3, .int x3)] →
      (∀ (x3 : Int32) (M_worth : Int32) (H : Heap) (locs : List Loc) (ls : Array Slot), k198 x3 M_worth → WH D A s (WM am ca M_clauses M_given M_end M_taped M_size M_at M_to M_sort M_worth M_faultKind M_faultPlace M_isTold M_nodes M_plain M_minus M_block M_left M_right M_pivot M_live M_needed M_label M_tape M_of M_kept M_had M_told M_first M_second M_node M_nodeVariable M_nodeLow M_nodeHigh M_wait) H locs → lv_has ls 4 [(0, .ref (am 0)), (1, .int x1), (3, .int x3)] → W p l e rm_M_cut s m args below meth c H locs 0 0 (QV D A below args s (fun (u : Int32 × Int32 × Int32 × Int32) => k u.1 u.2.1 u.2.2.1 u.2.2.2) (fun (u : Int32 × Int32 × Int32 × Int32) => WM am ca M_clauses M_given M_end M_taped M_size u.1 u.2.1 u.2.2.1 u.2.2.2 M_faultKind M_faultPlace M_isTold M_nodes M_plain M_minus M_block M_left M_right M_pivot M_live M_needed M_label M_tape M_of M_kept M_had M_told M_first M_second M_node M_nodeVariable M_nodeLow M_nodeHigh M_wait) 0 0) (F0 m 198 ls [])) →
      W p l e rm_M_cut s m args below meth c H locs 0 0 (QV D A below args s (fun (u : Int32 × Int32 × Int32 × Int32) => k u.1 u.2.1 u.2.2.1 u.2.2.2) (fun (u : Int32 × Int32 × Int32 × Int32) => WM am ca M_clauses M_given M_end M_taped M_size u.1 u.2.1 u.2.2.1 u.2.2.2 M_faultKind M_faultPlace M_isTold M_nodes M_plain M_minus M_block M_left M_right M_pivot M_live M_needed M_label M_tape M_of M_kept M_had M_told M_first M_second M_node M_nodeVariable M_nodeLow M_nodeHigh M_wait) 0 0) (F0 m 133 ls []) := by
  have hx := C0.1
  have hb := C0.2.1
  intro n
  induction n with
  | zero =>
    intro x3 M_worth H locs ls h
    exact False.elim h
  | succ n ih =>
    intro x3 M_worth H locs ls h hw hl h198
    unfold p_M_cut_L133 at h
    refine lv_iload_n hx hb d_M_cut_133 rfl (lv_at hl 1 rfl) ?_
    refine lv_iload_n hx hb d_M_cut_134 rfl (lv_at hl 2 rfl) ?_
    refine lv_iadd hx hb d_M_cut_135 ?_
    refine lv_aload_n hx hb d_M_cut_136 rfl (lv_at hl 0 rfl) ?_
    refine x_get C0 hw 0 rfl rfl i_M 14 (by decide) wm_739 rfl rfl d_M_cut_137 ?_
    refine lv_icmp_ge (tgt := 198) hx hb d_M_cut_140 (by decide) (fun c_10 => ?_) (fun c_10 => ?_)
    · have h := h.1 c_10
      exact h198 _ _ _ _ _ h hw (lv_sub hl [0, 1, 2] rfl)
    · have h := h.2 c_10
      refine lv_aload_n hx hb d_M_cut_143 rfl (lv_at hl 0 rfl) ?_
      refine x_get C0 hw 0 rfl rfl i_M 12 (by decide) wm_737 rfl rfl d_M_cut_144 ?_
      refine lv_iload_n hx hb d_M_cut_147 rfl (lv_at hl 1 rfl) ?_
      refine lv_iload_n hx hb d_M_cut_148 rfl (lv_at hl 2 rfl) ?_
      refine lv_iadd hx hb d_M_cut_149 ?_
      obtain ⟨hi_11, h⟩ := h
      refine x_bald C0 hw 10 rfl hi_11 d_M_cut_150 ?_
      refine x_callSi C0 hw hl (c_M_isDigit h) g_M_isDigit wm_844 wm_845 (As := [.int (M_tape (x1 + x3).toNatClampNeg)]) (rest := []) rfl rfl (Nat.le_of_ble_eq_true rfl) ⟨rfl, rfl⟩ ⟨Nat.le_of_ble_eq_true rfl, Nat.le_of_ble_eq_true rfl⟩ ⟨Nat.le_of_ble_eq_true rfl, Nat.le_of_ble_eq_true rfl⟩ d_M_cut_151 (fun r_12 u H locs h hw => ?_)
      refine lv_if_eq (tgt := 198) hx hb d_M_cut_154 (by decide) (fun c_13 => ?_) (fun c_13 => ?_)
      · have h := h.1 c_13
        exact h198 _ _ _ _ _ h hw (lv_sub hl [0, 1, 2] rfl)
      · have h := h.2 c_13
        refine lv_aload_n hx hb d_M_cut_157 rfl (lv_at hl 0 rfl) ?_
        refine lv_iload_n hx hb d_M_cut_158 rfl (lv_at hl 2 rfl) ?_
        refine lv_iconst (v := 3) hx hb d_M_cut_159 (by decide) ?_
        refine lv_icmp_ge (tgt := 185) hx hb d_M_cut_160 (by decide) (fun c_14 => ?_) (fun c_14 => ?_)
        · have h := h.1 c_14
          refine lv_aload_n hx hb d_M_cut_185 rfl (lv_at hl 0 rfl) ?_
          refine x_get C0 hw 0 rfl rfl i_M 18 (by decide) wm_743 rfl rfl d_M_cut_186 ?_
          refine x_put C0 hw 0 rfl rfl i_M tk_M n_M 18 (by decide) wm_743 rfl rfl rfl rfl (Nat.le_of_ble_eq_true rfl) (ws' := WM am ca M_clauses M_given M_end M_taped M_size M_at M_to M_sort M_worth M_faultKind M_faultPlace M_isTold M_nodes M_plain M_minus M_block M_left M_right M_pivot M_live M_needed M_label M_tape M_of M_kept M_had M_told M_first M_second M_node M_nodeVariable M_nodeLow M_nodeHigh M_wait) rfl d_M_cut_189 (fun H locs hw => ?_)
          refine lv_iinc (v := (x3 + 1)) (lv' := [(3, .int (x3 + 1)), (0, .ref (am 0)), (1, .int x1)]) hx hb d_M_cut_192 hl (k := 2) rfl rfl (by decide) rfl (fun ls hl => ?_)
          refine lv_goto (tgt := 133) hx hb d_M_cut_195 (by decide) ?_
          exact ih _ _ h hw (lv_sub hl [1, 2, 0] rfl) h198
        · have h := h.2 c_14
          refine lv_bipush (v := 10) hx hb d_M_cut_163 (by decide) ?_
          refine lv_aload_n hx hb d_M_cut_165 rfl (lv_at hl 0 rfl) ?_
          refine x_get C0 hw 0 rfl rfl i_M 18 (by decide) wm_743 rfl rfl d_M_cut_166 ?_
          refine lv_imul hx hb d_M_cut_169 ?_
          refine lv_aload_n hx hb d_M_cut_170 rfl (lv_at hl 0 rfl) ?_
          refine x_get C0 hw 0 rfl rfl i_M 12 (by decide) wm_737 rfl rfl d_M_cut_171 ?_
          refine lv_iload_n hx hb d_M_cut_174 rfl (lv_at hl 1 rfl) ?_
          refine lv_iload_n hx hb d_M_cut_175 rfl (lv_at hl 2 rfl) ?_
          refine lv_iadd hx hb d_M_cut_176 ?_
          refine x_bald C0 hw 10 rfl hi_11 d_M_cut_177 ?_
          refine lv_iadd hx hb d_M_cut_178 ?_
          refine lv_bipush (v := 48) hx hb d_M_cut_179 (by decide) ?_
          refine lv_isub hx hb d_M_cut_181 ?_
          refine lv_goto (tgt := 189) hx hb d_M_cut_182 (by decide) ?_
          refine lv_topi (fun v_worth_15 e_v_worth_15 => ?_)
          have h := h v_worth_15 e_v_worth_15
          refine x_put C0 hw 0 rfl rfl i_M tk_M n_M 18 (by decide) wm_743 rfl rfl rfl rfl (Nat.le_of_ble_eq_true rfl) (ws' := WM am ca M_clauses M_given M_end M_taped M_size M_at M_to M_sort v_worth_15 M_faultKind M_faultPlace M_isTold M_nodes M_plain M_minus M_block M_left M_right M_pivot M_live M_needed M_label M_tape M_of M_kept M_had M_told M_first M_second M_node M_nodeVariable M_nodeLow M_nodeHigh M_wait) rfl d_M_cut_189 (fun H locs hw => ?_)
          refine lv_iinc (v := (x3 + 1)) (lv' := [(3, .int (x3 + 1)), (0, .ref (am 0)), (1, .int x1)]) hx hb d_M_cut_192 hl (k := 2) rfl rfl (by decide) rfl (fun ls hl => ?_)
          refine lv_goto (tgt := 133) hx hb d_M_cut_195 (by decide) ?_
          exact ih _ _ h hw (lv_sub hl [1, 2, 0] rfl) h198
set_option maxHeartbeats 4000000 in
set_option maxRecDepth 100000 in
theorem b_M_cut_J41 {p : Program} {l : Launch} {e : Env} {s : State} {m : MethodId} {args : Array Value} {below : List Frame} {meth : Method} {c : Code} {D : va_G} {ca : Nat → ClassId} {tp : Nat} {A : Nat → Prop} {am : Nat → Nat} {M_clauses : Int32} {M_given : Int32} {M_end : Int32} {M_taped : Int32} {M_size : Int32} {M_faultKind : Int32} {M_faultPlace : Int32} {M_isTold : Int32} {M_nodes : Int32} {M_plain : Nat → Int32} {M_minus : Nat → Int32} {M_block : Nat → Int32} {M_left : Nat → Int32} {M_right : Nat → Int32} {M_pivot : Nat → Int32} {M_live : Nat → Int32} {M_needed : Nat → Int32} {M_label : Nat → Int32} {M_tape : Nat → Int32} {M_of : Nat → Int64} {M_kept : Nat → Int64} {M_had : Nat → Int32} {M_told : Nat → Int64} {M_first : Nat → Int64} {M_second : Nat → Int64} {M_node : Nat → Int64} {M_nodeVariable : Nat → Int32} {M_nodeLow : Nat → Int32} {M_nodeHigh : Nat → Int32} {M_wait : Nat → Int32}  {k : Int32 → Int32 → Int32 → Int32 → Prop}  (C0 : CX p s m args meth c b_M_cut 4 none R_M "cut" D ca tp A) :
    ∀ (x1 : Int32) (M_at : Int32) (M_to : Int32) (M_sort : Int32) (M_worth : Int32) {H : Heap} {locs : List Loc} {ls : Array Slot}, p_M_cut_J41 M_size M_tape k x1 M_at M_to M_sort M_worth → WH D A s (WM am ca M_clauses M_given M_end M_taped M_size M_at M_to M_sort M_worth M_faultKind M_faultPlace M_isTold M_nodes M_plain M_minus M_block M_left M_right M_pivot M_live M_needed M_label M_tape M_of M_kept M_had M_told M_first M_second M_node M_nodeVariable M_nodeLow M_nodeHigh M_wait) H locs → lv_has ls 4 [(0, .ref (am 0)), (1, .int x1)] →
      W p l e rm_M_cut s m args below meth c H locs 0 0 (QV D A below args s (fun (u : Int32 × Int32 × Int32 × Int32) => k u.1 u.2.1 u.2.2.1 u.2.2.2) (fun (u : Int32 × Int32 × Int32 × Int32) => WM am ca M_clauses M_given M_end M_taped M_size u.1 u.2.1 u.2.2.1 u.2.2.2 M_faultKind M_faultPlace M_isTold M_nodes M_plain M_minus M_block M_left M_right M_pivot M_live M_needed M_label M_tape M_of M_kept M_had M_told M_first M_second M_node M_nodeVariable M_nodeLow M_nodeHigh M_wait) 0 0) (F0 m 41 ls []) := by
  have hx := C0.1
  have hb := C0.2.1
  intro x1 M_at M_to M_sort M_worth H locs ls h hw hl
  unfold p_M_cut_J41 at h
  refine lv_aload_n hx hb d_M_cut_41 rfl (lv_at hl 0 rfl) ?_
  refine lv_iload_n hx hb d_M_cut_42 rfl (lv_at hl 1 rfl) ?_
  refine x_put C0 hw 0 rfl rfl i_M tk_M n_M 15 (by decide) wm_740 rfl rfl rfl rfl (Nat.le_of_ble_eq_true rfl) (ws' := WM am ca M_clauses M_given M_end M_taped M_size x1 M_to M_sort M_worth M_faultKind M_faultPlace M_isTold M_nodes M_plain M_minus M_block M_left M_right M_pivot M_live M_needed M_label M_tape M_of M_kept M_had M_told M_first M_second M_node M_nodeVariable M_nodeLow M_nodeHigh M_wait) rfl d_M_cut_43 (fun H locs hw => ?_)
  refine lv_iload_n hx hb d_M_cut_46 rfl (lv_at hl 1 rfl) ?_
  refine lv_aload_n hx hb d_M_cut_47 rfl (lv_at hl 0 rfl) ?_
  refine x_get C0 hw 0 rfl rfl i_M 14 (by decide) wm_739 rfl rfl d_M_cut_48 ?_
  refine lv_icmp_ne (tgt := 65) hx hb d_M_cut_51 (by decide) (fun c_6 => ?_) (fun c_6 => ?_)
  · have h := h.1 c_6
    refine lv_aload_n hx hb d_M_cut_65 rfl (lv_at hl 0 rfl) ?_
    refine x_get C0 hw 0 rfl rfl i_M 12 (by decide) wm_737 rfl rfl d_M_cut_66 ?_
    refine lv_iload_n hx hb d_M_cut_69 rfl (lv_at hl 1 rfl) ?_
    obtain ⟨hi_7, h⟩ := h
    refine x_bald C0 hw 10 rfl hi_7 d_M_cut_70 ?_
    refine lv_istore_n (lv' := [(2, .int (M_tape x1.toNatClampNeg)), (0, .ref (am 0)), (1, .int x1)]) hx hb d_M_cut_71 rfl hl (by decide) rfl (fun ls hl => ?_)
    refine lv_iload_n hx hb d_M_cut_72 rfl (lv_at hl 0 rfl) ?_
    refine x_callSi C0 hw hl (c_M_isDigit h) g_M_isDigit wm_844 wm_845 (As := [.int (M_tape x1.toNatClampNeg)]) (rest := []) rfl rfl (Nat.le_of_ble_eq_true rfl) ⟨rfl, rfl⟩ ⟨Nat.le_of_ble_eq_true rfl, Nat.le_of_ble_eq_true rfl⟩ ⟨Nat.le_of_ble_eq_true rfl, Nat.le_of_ble_eq_true rfl⟩ d_M_cut_73 (fun r_8 u H locs h hw => ?_)
    refine lv_if_ne (tgt := 126) hx hb d_M_cut_76 (by decide) (fun c_9 => ?_) (fun c_9 => ?_)
    · have h := h.1 c_9
      refine lv_iconst (v := 0) hx hb d_M_cut_126 (by decide) ?_
      refine lv_istore_n (lv' := [(3, .int (0 : Int32)), (2, .int (M_tape x1.toNatClampNeg)), (0, .ref (am 0)), (1, .int x1)]) hx hb d_M_cut_127 rfl hl (by decide) rfl (fun ls hl => ?_)
      refine lv_aload_n hx hb d_M_cut_128 rfl (lv_at hl 2 rfl) ?_
      refine lv_iconst (v := 0) hx hb d_M_cut_129 (by decide) ?_
      refine x_put C0 hw 0 rfl rfl i_M tk_M n_M 18 (by decide) wm_743 rfl rfl rfl rfl (Nat.le_of_ble_eq_true rfl) (ws' := WM am ca M_clauses M_given M_end M_taped M_size x1 M_to M_sort (0 : Int32) M_faultKind M_faultPlace M_isTold M_nodes M_plain M_minus M_block M_left M_right M_pivot M_live M_needed M_label M_tape M_of M_kept M_had M_told M_first M_second M_node M_nodeVariable M_nodeLow M_nodeHigh M_wait) rfl d_M_cut_130 (fun H locs hw => ?_)
      obtain ⟨j_19, h⟩ := h
      refine b_M_cut_L133 C0 _ _ _ h hw (lv_sub hl [2, 3, 0] rfl) (fun x3_16 M_worth_17 H locs ls h hw hl => ?_)
      refine lv_aload_n hx hb d_M_cut_198 rfl (lv_at hl 0 rfl) ?_
      refine lv_iload_n hx hb d_M_cut_199 rfl (lv_at hl 1 rfl) ?_
      refine lv_iload_n hx hb d_M_cut_200 rfl (lv_at hl 2 rfl) ?_
      refine lv_iadd hx hb d_M_cut_201 ?_
      refine x_put C0 hw 0 rfl rfl i_M tk_M n_M 16 (by decide) wm_741 rfl rfl rfl rfl (Nat.le_of_ble_eq_true rfl) (ws' := WM am ca M_clauses M_given M_end M_taped M_size x1 (x1 + x3_16) M_sort M_worth_17 M_faultKind M_faultPlace M_isTold M_nodes M_plain M_minus M_block M_left M_right M_pivot M_live M_needed M_label M_tape M_of M_kept M_had M_told M_first M_second M_node M_nodeVariable M_nodeLow M_nodeHigh M_wait) rfl d_M_cut_202 (fun H locs hw => ?_)
      refine lv_aload_n hx hb d_M_cut_205 rfl (lv_at hl 0 rfl) ?_
      refine lv_iload_n hx hb d_M_cut_206 rfl (lv_at hl 2 rfl) ?_
      refine lv_iconst (v := 3) hx hb d_M_cut_207 (by decide) ?_
      refine lv_icmp_le (tgt := 215) hx hb d_M_cut_208 (by decide) (fun c_18 => ?_) (fun c_18 => ?_)
      · have h := h.1 c_18
        refine lv_iconst (v := 1) hx hb d_M_cut_215 (by decide) ?_
        refine x_put C0 hw 0 rfl rfl i_M tk_M n_M 17 (by decide) wm_742 rfl rfl rfl rfl (Nat.le_of_ble_eq_true rfl) (ws' := WM am ca M_clauses M_given M_end M_taped M_size x1 (x1 + x3_16) (1 : Int32) M_worth_17 M_faultKind M_faultPlace M_isTold M_nodes M_plain M_minus M_block M_left M_right M_pivot M_live M_needed M_label M_tape M_of M_kept M_had M_told M_first M_second M_node M_nodeVariable M_nodeLow M_nodeHigh M_wait) rfl d_M_cut_216 (fun H locs hw => ?_)
        exact x_vret C0 hw (x1, (x1 + x3_16), (1 : Int32), M_worth_17) h rfl d_M_cut_219
      · have h := h.2 c_18
        refine lv_iconst (v := 0) hx hb d_M_cut_211 (by decide) ?_
        refine lv_goto (tgt := 216) hx hb d_M_cut_212 (by decide) ?_
        refine x_put C0 hw 0 rfl rfl i_M tk_M n_M 17 (by decide) wm_742 rfl rfl rfl rfl (Nat.le_of_ble_eq_true rfl) (ws' := WM am ca M_clauses M_given M_end M_taped M_size x1 (x1 + x3_16) (0 : Int32) M_worth_17 M_faultKind M_faultPlace M_isTold M_nodes M_plain M_minus M_block M_left M_right M_pivot M_live M_needed M_label M_tape M_of M_kept M_had M_told M_first M_second M_node M_nodeVariable M_nodeLow M_nodeHigh M_wait) rfl d_M_cut_216 (fun H locs hw => ?_)
        exact x_vret C0 hw (x1, (x1 + x3_16), (0 : Int32), M_worth_17) h rfl d_M_cut_219
    · have h := h.2 c_9
      refine lv_aload_n hx hb d_M_cut_79 rfl (lv_at hl 1 rfl) ?_
      refine lv_iload_n hx hb d_M_cut_80 rfl (lv_at hl 2 rfl) ?_
      refine lv_iconst (v := 1) hx hb d_M_cut_81 (by decide) ?_
      refine lv_iadd hx hb d_M_cut_82 ?_
      refine x_put C0 hw 0 rfl rfl i_M tk_M n_M 16 (by decide) wm_741 rfl rfl rfl rfl (Nat.le_of_ble_eq_true rfl) (ws' := WM am ca M_clauses M_given M_end M_taped M_size x1 (x1 + (1 : Int32)) M_sort M_worth M_faultKind M_faultPlace M_isTold M_nodes M_plain M_minus M_block M_left M_right M_pivot M_live M_needed M_label M_tape M_of M_kept M_had M_told M_first M_second M_node M_nodeVariable M_nodeLow M_nodeHigh M_wait) rfl d_M_cut_83 (fun H locs hw => ?_)
      refine lv_aload_n hx hb d_M_cut_86 rfl (lv_at hl 1 rfl) ?_
      refine lv_iload_n hx hb d_M_cut_87 rfl (lv_at hl 0 rfl) ?_
      refine lv_bipush (v := 99) hx hb d_M_cut_88 (by decide) ?_
      refine lv_icmp_eq (tgt := 117) hx hb d_M_cut_90 (by decide) (fun c_20 => ?_) (fun c_20 => ?_)
      · have h := h.1 c_20
        refine lv_iload_n hx hb d_M_cut_117 rfl (lv_at hl 0 rfl) ?_
        refine lv_goto (tgt := 122) hx hb d_M_cut_118 (by decide) ?_
        refine x_put C0 hw 0 rfl rfl i_M tk_M n_M 17 (by decide) wm_742 rfl rfl rfl rfl (Nat.le_of_ble_eq_true rfl) (ws' := WM am ca M_clauses M_given M_end M_taped M_size x1 (x1 + (1 : Int32)) (M_tape x1.toNatClampNeg) M_worth M_faultKind M_faultPlace M_isTold M_nodes M_plain M_minus M_block M_left M_right M_pivot M_live M_needed M_label M_tape M_of M_kept M_had M_told M_first M_second M_node M_nodeVariable M_nodeLow M_nodeHigh M_wait) rfl d_M_cut_122 (fun H locs hw => ?_)
        exact x_vret C0 hw (x1, (x1 + (1 : Int32)), (M_tape x1.toNatClampNeg), M_worth) h rfl d_M_cut_125
      · have h := h.2 c_20
        refine lv_iload_n hx hb d_M_cut_93 rfl (lv_at hl 0 rfl) ?_
        refine lv_bipush (v := 114) hx hb d_M_cut_94 (by decide) ?_
        refine lv_icmp_eq (tgt := 117) hx hb d_M_cut_96 (by decide) (fun c_21 => ?_) (fun c_21 => ?_)
        · have h := h.1 c_21
          refine lv_iload_n hx hb d_M_cut_117 rfl (lv_at hl 0 rfl) ?_
          refine lv_goto (tgt := 122) hx hb d_M_cut_118 (by decide) ?_
          refine x_put C0 hw 0 rfl rfl i_M tk_M n_M 17 (by decide) wm_742 rfl rfl rfl rfl (Nat.le_of_ble_eq_true rfl) (ws' := WM am ca M_clauses M_given M_end M_taped M_size x1 (x1 + (1 : Int32)) (M_tape x1.toNatClampNeg) M_worth M_faultKind M_faultPlace M_isTold M_nodes M_plain M_minus M_block M_left M_right M_pivot M_live M_needed M_label M_tape M_of M_kept M_had M_told M_first M_second M_node M_nodeVariable M_nodeLow M_nodeHigh M_wait) rfl d_M_cut_122 (fun H locs hw => ?_)
          exact x_vret C0 hw (x1, (x1 + (1 : Int32)), (M_tape x1.toNatClampNeg), M_worth) h rfl d_M_cut_125
        · have h := h.2 c_21
          refine lv_iload_n hx hb d_M_cut_99 rfl (lv_at hl 0 rfl) ?_
          refine lv_bipush (v := 58) hx hb d_M_cut_100 (by decide) ?_
          refine lv_icmp_eq (tgt := 117) hx hb d_M_cut_102 (by decide) (fun c_22 => ?_) (fun c_22 => ?_)
          · have h := h.1 c_22
            refine lv_iload_n hx hb d_M_cut_117 rfl (lv_at hl 0 rfl) ?_
            refine lv_goto (tgt := 122) hx hb d_M_cut_118 (by decide) ?_
            refine x_put C0 hw 0 rfl rfl i_M tk_M n_M 17 (by decide) wm_742 rfl rfl rfl rfl (Nat.le_of_ble_eq_true rfl) (ws' := WM am ca M_clauses M_given M_end M_taped M_size x1 (x1 + (1 : Int32)) (M_tape x1.toNatClampNeg) M_worth M_faultKind M_faultPlace M_isTold M_nodes M_plain M_minus M_block M_left M_right M_pivot M_live M_needed M_label M_tape M_of M_kept M_had M_told M_first M_second M_node M_nodeVariable M_nodeLow M_nodeHigh M_wait) rfl d_M_cut_122 (fun H locs hw => ?_)
            exact x_vret C0 hw (x1, (x1 + (1 : Int32)), (M_tape x1.toNatClampNeg), M_worth) h rfl d_M_cut_125
          · have h := h.2 c_22
            refine lv_iload_n hx hb d_M_cut_105 rfl (lv_at hl 0 rfl) ?_
            refine lv_bipush (v := 59) hx hb d_M_cut_106 (by decide) ?_
            refine lv_icmp_eq (tgt := 117) hx hb d_M_cut_108 (by decide) (fun c_23 => ?_) (fun c_23 => ?_)
            · have h := h.1 c_23
              refine lv_iload_n hx hb d_M_cut_117 rfl (lv_at hl 0 rfl) ?_
              refine lv_goto (tgt := 122) hx hb d_M_cut_118 (by decide) ?_
              refine x_put C0 hw 0 rfl rfl i_M tk_M n_M 17 (by decide) wm_742 rfl rfl rfl rfl (Nat.le_of_ble_eq_true rfl) (ws' := WM am ca M_clauses M_given M_end M_taped M_size x1 (x1 + (1 : Int32)) (M_tape x1.toNatClampNeg) M_worth M_faultKind M_faultPlace M_isTold M_nodes M_plain M_minus M_block M_left M_right M_pivot M_live M_needed M_label M_tape M_of M_kept M_had M_told M_first M_second M_node M_nodeVariable M_nodeLow M_nodeHigh M_wait) rfl d_M_cut_122 (fun H locs hw => ?_)
              exact x_vret C0 hw (x1, (x1 + (1 : Int32)), (M_tape x1.toNatClampNeg), M_worth) h rfl d_M_cut_125
            · have h := h.2 c_23
              refine lv_iload_n hx hb d_M_cut_111 rfl (lv_at hl 0 rfl) ?_
              refine lv_bipush (v := 45) hx hb d_M_cut_112 (by decide) ?_
              refine lv_icmp_ne (tgt := 121) hx hb d_M_cut_114 (by decide) (fun c_24 => ?_) (fun c_24 => ?_)
              · have h := h.1 c_24
                refine lv_iconst (v := 0) hx hb d_M_cut_121 (by decide) ?_
                refine x_put C0 hw 0 rfl rfl i_M tk_M n_M 17 (by decide) wm_742 rfl rfl rfl rfl (Nat.le_of_ble_eq_true rfl) (ws' := WM am ca M_clauses M_given M_end M_taped M_size x1 (x1 + (1 : Int32)) (0 : Int32) M_worth M_faultKind M_faultPlace M_isTold M_nodes M_plain M_minus M_block M_left M_right M_pivot M_live M_needed M_label M_tape M_of M_kept M_had M_told M_first M_second M_node M_nodeVariable M_nodeLow M_nodeHigh M_wait) rfl d_M_cut_122 (fun H locs hw => ?_)
                exact x_vret C0 hw (x1, (x1 + (1 : Int32)), (0 : Int32), M_worth) h rfl d_M_cut_125
              · have h := h.2 c_24
                refine lv_iload_n hx hb d_M_cut_117 rfl (lv_at hl 0 rfl) ?_
                refine lv_goto (tgt := 122) hx hb d_M_cut_118 (by decide) ?_
                refine x_put C0 hw 0 rfl rfl i_M tk_M n_M 17 (by decide) wm_742 rfl rfl rfl rfl (Nat.le_of_ble_eq_true rfl) (ws' := WM am ca M_clauses M_given M_end M_taped M_size x1 (x1 + (1 : Int32)) (M_tape x1.toNatClampNeg) M_worth M_faultKind M_faultPlace M_isTold M_nodes M_plain M_minus M_block M_left M_right M_pivot M_live M_needed M_label M_tape M_of M_kept M_had M_told M_first M_second M_node M_nodeVariable M_nodeLow M_nodeHigh M_wait) rfl d_M_cut_122 (fun H locs hw => ?_)
                exact x_vret C0 hw (x1, (x1 + (1 : Int32)), (M_tape x1.toNatClampNeg), M_worth) h rfl d_M_cut_125
  · have h := h.2 c_6
    refine lv_aload_n hx hb d_M_cut_54 rfl (lv_at hl 0 rfl) ?_
    refine lv_iconst (v := 2) hx hb d_M_cut_55 (by decide) ?_
    refine x_put C0 hw 0 rfl rfl i_M tk_M n_M 17 (by decide) wm_742 rfl rfl rfl rfl (Nat.le_of_ble_eq_true rfl) (ws' := WM am ca M_clauses M_given M_end M_taped M_size x1 M_to (2 : Int32) M_worth M_faultKind M_faultPlace M_isTold M_nodes M_plain M_minus M_block M_left M_right M_pivot M_live M_needed M_label M_tape M_of M_kept M_had M_told M_first M_second M_node M_nodeVariable M_nodeLow M_nodeHigh M_wait) rfl d_M_cut_56 (fun H locs hw => ?_)
    refine lv_aload_n hx hb d_M_cut_59 rfl (lv_at hl 0 rfl) ?_
    refine lv_iload_n hx hb d_M_cut_60 rfl (lv_at hl 1 rfl) ?_
    refine x_put C0 hw 0 rfl rfl i_M tk_M n_M 16 (by decide) wm_741 rfl rfl rfl rfl (Nat.le_of_ble_eq_true rfl) (ws' := WM am ca M_clauses M_given M_end M_taped M_size x1 x1 (2 : Int32) M_worth M_faultKind M_faultPlace M_isTold M_nodes M_plain M_minus M_block M_left M_right M_pivot M_live M_needed M_label M_tape M_of M_kept M_had M_told M_first M_second M_node M_nodeVariable M_nodeLow M_nodeHigh M_wait) rfl d_M_cut_61 (fun H locs hw => ?_)
    exact x_vret C0 hw (x1, x1, (2 : Int32), M_worth) h rfl d_M_cut_64
set_option maxHeartbeats 4000000 in
set_option maxRecDepth 100000 in
theorem c_M_cut {l : Launch} {D : va_G} {ca : Nat → ClassId} {tp : Nat} {am : Nat → Nat} {M_clauses : Int32} {M_given : Int32} {M_end : Int32} {M_taped : Int32} {M_size : Int32} {M_at : Int32} {M_to : Int32} {M_sort : Int32} {M_worth : Int32} {M_faultKind : Int32} {M_faultPlace : Int32} {M_isTold : Int32} {M_nodes : Int32} {M_plain : Nat → Int32} {M_minus : Nat → Int32} {M_block : Nat → Int32} {M_left : Nat → Int32} {M_right : Nat → Int32} {M_pivot : Nat → Int32} {M_live : Nat → Int32} {M_needed : Nat → Int32} {M_label : Nat → Int32} {M_tape : Nat → Int32} {M_of : Nat → Int64} {M_kept : Nat → Int64} {M_had : Nat → Int32} {M_told : Nat → Int64} {M_first : Nat → Int64} {M_second : Nat → Int64} {M_node : Nat → Int64} {M_nodeVariable : Nat → Int32} {M_nodeLow : Nat → Int32} {M_nodeHigh : Nat → Int32} {M_wait : Nat → Int32}  {k : Int32 → Int32 → Int32 → Int32 → Prop} (h : p_M_cut M_size M_at M_to M_sort M_worth M_tape k) :
    MTv l y_M_cut b_M_cut 4 none rm_M_cut D ca tp [.ref (am 0)] (WM am ca M_clauses M_given M_end M_taped M_size M_at M_to M_sort M_worth M_faultKind M_faultPlace M_isTold M_nodes M_plain M_minus M_block M_left M_right M_pivot M_live M_needed M_label M_tape M_of M_kept M_had M_told M_first M_second M_node M_nodeVariable M_nodeLow M_nodeHigh M_wait)
      (fun (u : Int32 × Int32 × Int32 × Int32) => k u.1 u.2.1 u.2.2.1 u.2.2.2)
      (fun (u : Int32 × Int32 × Int32 × Int32) => WM am ca M_clauses M_given M_end M_taped M_size u.1 u.2.1 u.2.2.1 u.2.2.2 M_faultKind M_faultPlace M_isTold M_nodes M_plain M_minus M_block M_left M_right M_pivot M_live M_needed M_label M_tape M_of M_kept M_had M_told M_first M_second M_node M_nodeVariable M_nodeLow M_nodeHigh M_wait) 0 0 := by
  refine x_entryv (own := R_M) (nm := "cut") (by decide) rfl rfl (Nat.le_of_ble_eq_true rfl) (fun p e s m below meth c A ls C0 hw hl => ?_)
  have hx := C0.1
  have hb := C0.2.1
  have hl : lv_has ls 4 [(0, .ref (am 0))] := hl
  unfold p_M_cut at h
  refine lv_aload_n hx hb d_M_cut_0 rfl (lv_at hl 0 rfl) ?_
  refine x_get C0 hw 0 rfl rfl i_M 16 (by decide) wm_741 rfl rfl d_M_cut_1 ?_
  refine lv_istore_n (lv' := [(1, .int M_to), (0, .ref (am 0))]) hx hb d_M_cut_4 rfl hl (by decide) rfl (fun ls hl => ?_)
  obtain ⟨j_25, h⟩ := h
  refine b_M_cut_L5 C0 _ _ h hw (lv_sub hl [1, 0] rfl) (fun x1_5 H locs ls h hw hl => ?_)
  refine b_M_cut_J41 C0 _ _ _ _ _ h hw (lv_sub hl [0, 1] rfl)
theorem g_M_need : GY y_M_need b_M_need 3 (some .boolean) 2 := ⟨wm_854, wm_62, by decide +kernel, by decide +kernel, by decide +kernel⟩
def p_M_need (M_at : Int32) (M_faultKind : Int32) (M_faultPlace : Int32) (x1 : Int32) (x2 : Int32) (k : Int32 → Int32 → Int32 → Prop) : Prop :=
  ((¬ M_faultKind = 0 → ((¬ M_faultKind = 0 → (k (0 : Int32) M_faultKind M_faultPlace)) ∧ (M_faultKind = 0 → (k (1 : Int32) M_faultKind M_faultPlace)))) ∧ (M_faultKind = 0 → ((¬ x1 = 0 → ((¬ M_faultKind = 0 → (k (0 : Int32) M_faultKind M_faultPlace)) ∧ (M_faultKind = 0 → (k (1 : Int32) M_faultKind M_faultPlace)))) ∧ (x1 = 0 → ((¬ x2 = 0 → (k (0 : Int32) x2 M_at)) ∧ (x2 = 0 → (k (1 : Int32) x2 M_at)))))))
abbrev rm_M_need : Room := { frames := 0, cells := 0, slots := 0, locals := 0 }
set_option maxHeartbeats 4000000 in
set_option maxRecDepth 100000 in
theorem c_M_need {l : Launch} {D : va_G} {ca : Nat → ClassId} {tp : Nat} {am : Nat → Nat} {M_clauses : Int32} {M_given : Int32} {M_end : Int32} {M_taped : Int32} {M_size : Int32} {M_at : Int32} {M_to : Int32} {M_sort : Int32} {M_worth : Int32} {M_faultKind : Int32} {M_faultPlace : Int32} {M_isTold : Int32} {M_nodes : Int32} {M_plain : Nat → Int32} {M_minus : Nat → Int32} {M_block : Nat → Int32} {M_left : Nat → Int32} {M_right : Nat → Int32} {M_pivot : Nat → Int32} {M_live : Nat → Int32} {M_needed : Nat → Int32} {M_label : Nat → Int32} {M_tape : Nat → Int32} {M_of : Nat → Int64} {M_kept : Nat → Int64} {M_had : Nat → Int32} {M_told : Nat → Int64} {M_first : Nat → Int64} {M_second : Nat → Int64} {M_node : Nat → Int64} {M_nodeVariable : Nat → Int32} {M_nodeLow : Nat → Int32} {M_nodeHigh : Nat → Int32} {M_wait : Nat → Int32} {x1 : Int32} {x2 : Int32} {k : Int32 → Int32 → Int32 → Prop} (h : p_M_need M_at M_faultKind M_faultPlace x1 x2 k) :
    MTi l y_M_need b_M_need 3 (some .boolean) rm_M_need D ca tp [.ref (am 0), .int x1, .int x2] (WM am ca M_clauses M_given M_end M_taped M_size M_at M_to M_sort M_worth M_faultKind M_faultPlace M_isTold M_nodes M_plain M_minus M_block M_left M_right M_pivot M_live M_needed M_label M_tape M_of M_kept M_had M_told M_first M_second M_node M_nodeVariable M_nodeLow M_nodeHigh M_wait)
      (fun r (u : Int32 × Int32) => k r u.1 u.2)
      (fun (u : Int32 × Int32) => WM am ca M_clauses M_given M_end M_taped M_size M_at M_to M_sort M_worth u.1 u.2 M_isTold M_nodes M_plain M_minus M_block M_left M_right M_pivot M_live M_needed M_label M_tape M_of M_kept M_had M_told M_first M_second M_node M_nodeVariable M_nodeLow M_nodeHigh M_wait) 0 0 := by
  refine x_entryi (own := R_M) (nm := "need") (by decide) rfl rfl (Nat.le_of_ble_eq_true rfl) (fun p e s m below meth c A ls C0 hw hl => ?_)
  have hx := C0.1
  have hb := C0.2.1
  have hl : lv_has ls 3 [(0, .ref (am 0)), (1, .int x1), (2, .int x2)] := hl
  unfold p_M_need at h
  refine lv_aload_n hx hb d_M_need_0 rfl (lv_at hl 0 rfl) ?_
  refine x_get C0 hw 0 rfl rfl i_M 19 (by decide) wm_744 rfl rfl d_M_need_1 ?_
  refine lv_if_ne (tgt := 24) hx hb d_M_need_4 (by decide) (fun c_1 => ?_) (fun c_1 => ?_)
  · have h := h.1 c_1
    refine lv_aload_n hx hb d_M_need_24 rfl (lv_at hl 0 rfl) ?_
    refine x_get C0 hw 0 rfl rfl i_M 19 (by decide) wm_744 rfl rfl d_M_need_25 ?_
    refine lv_if_ne (tgt := 35) hx hb d_M_need_28 (by decide) (fun c_2 => ?_) (fun c_2 => ?_)
    · have h := h.1 c_2
      refine lv_iconst (v := 0) hx hb d_M_need_35 (by decide) ?_
      exact x_zret C0 hw rfl (M_faultKind, M_faultPlace) h rfl d_M_need_36
    · have h := h.2 c_2
      refine lv_iconst (v := 1) hx hb d_M_need_31 (by decide) ?_
      refine lv_goto (tgt := 36) hx hb d_M_need_32 (by decide) ?_
      exact x_zret C0 hw rfl (M_faultKind, M_faultPlace) h rfl d_M_need_36
  · have h := h.2 c_1
    refine lv_iload_n hx hb d_M_need_7 rfl (lv_at hl 1 rfl) ?_
    refine lv_if_ne (tgt := 24) hx hb d_M_need_8 (by decide) (fun c_3 => ?_) (fun c_3 => ?_)
    · have h := h.1 c_3
      refine lv_aload_n hx hb d_M_need_24 rfl (lv_at hl 0 rfl) ?_
      refine x_get C0 hw 0 rfl rfl i_M 19 (by decide) wm_744 rfl rfl d_M_need_25 ?_
      refine lv_if_ne (tgt := 35) hx hb d_M_need_28 (by decide) (fun c_4 => ?_) (fun c_4 => ?_)
      · have h := h.1 c_4
        refine lv_iconst (v := 0) hx hb d_M_need_35 (by decide) ?_
        exact x_zret C0 hw rfl (M_faultKind, M_faultPlace) h rfl d_M_need_36
      · have h := h.2 c_4
        refine lv_iconst (v := 1) hx hb d_M_need_31 (by decide) ?_
        refine lv_goto (tgt := 36) hx hb d_M_need_32 (by decide) ?_
        exact x_zret C0 hw rfl (M_faultKind, M_faultPlace) h rfl d_M_need_36
    · have h := h.2 c_3
      refine lv_aload_n hx hb d_M_need_11 rfl (lv_at hl 0 rfl) ?_
      refine lv_iload_n hx hb d_M_need_12 rfl (lv_at hl 2 rfl) ?_
      refine x_put C0 hw 0 rfl rfl i_M tk_M n_M 19 (by decide) wm_744 rfl rfl rfl rfl (Nat.le_of_ble_eq_true rfl) (ws' := WM am ca M_clauses M_given M_end M_taped M_size M_at M_to M_sort M_worth x2 M_faultPlace M_isTold M_nodes M_plain M_minus M_block M_left M_right M_pivot M_live M_needed M_label M_tape M_of M_kept M_had M_told M_first M_second M_node M_nodeVariable M_nodeLow M_nodeHigh M_wait) rfl d_M_need_13 (fun H locs hw => ?_)
      refine lv_aload_n hx hb d_M_need_16 rfl (lv_at hl 0 rfl) ?_
      refine lv_aload_n hx hb d_M_need_17 rfl (lv_at hl 0 rfl) ?_
      refine x_get C0 hw 0 rfl rfl i_M 15 (by decide) wm_740 rfl rfl d_M_need_18 ?_
      refine x_put C0 hw 0 rfl rfl i_M tk_M n_M 20 (by decide) wm_745 rfl rfl rfl rfl (Nat.le_of_ble_eq_true rfl) (ws' := WM am ca M_clauses M_given M_end M_taped M_size M_at M_to M_sort M_worth x2 M_at M_isTold M_nodes M_plain M_minus M_block M_left M_right M_pivot M_live M_needed M_label M_tape M_of M_kept M_had M_told M_first M_second M_node M_nodeVariable M_nodeLow M_nodeHigh M_wait) rfl d_M_need_21 (fun H locs hw => ?_)
      refine lv_aload_n hx hb d_M_need_24 rfl (lv_at hl 0 rfl) ?_
      refine x_get C0 hw 0 rfl rfl i_M 19 (by decide) wm_744 rfl rfl d_M_need_25 ?_
      refine lv_if_ne (tgt := 35) hx hb d_M_need_28 (by decide) (fun c_5 => ?_) (fun c_5 => ?_)
      · have h := h.1 c_5
        refine lv_iconst (v := 0) hx hb d_M_need_35 (by decide) ?_
        exact x_zret C0 hw rfl (x2, M_at) h rfl d_M_need_36
      · have h := h.2 c_5
        refine lv_iconst (v := 1) hx hb d_M_need_31 (by decide) ?_
        refine lv_goto (tgt := 36) hx hb d_M_need_32 (by decide) ?_
        exact x_zret C0 hw rfl (x2, M_at) h rfl d_M_need_36
theorem g_M_takes : GY y_M_takes b_M_takes 2 (some .boolean) 1 := ⟨wm_858, wm_62, by decide +kernel, by decide +kernel, by decide +kernel⟩
def p_M_takes (M_size : Int32) (M_at : Int32) (M_to : Int32) (M_sort : Int32) (M_worth : Int32) (M_faultKind : Int32) (M_faultPlace : Int32) (M_tape : Nat → Int32) (x1 : Int32) (k : Int32 → Int32 → Int32 → Int32 → Int32 → Int32 → Int32 → Prop) : Prop :=
  ((¬ M_sort = x1 → (p_M_need M_at M_faultKind M_faultPlace (0 : Int32) (1 : Int32) (fun (r_4 : Int32) (M_faultKind_2 : Int32) (M_faultPlace_3 : Int32) => ((¬ r_4 = 0 → (p_M_cut M_size M_at M_to M_sort M_worth M_tape (fun (M_at_6 : Int32) (M_to_7 : Int32) (M_sort_8 : Int32) (M_worth_9 : Int32) => (k (1 : Int32) M_at_6 M_to_7 M_sort_8 M_worth_9 M_faultKind_2 M_faultPlace_3)))) ∧ (r_4 = 0 → (k (0 : Int32) M_at M_to M_sort M_worth M_faultKind_2 M_faultPlace_3)))))) ∧ (M_sort = x1 → (p_M_need M_at M_faultKind M_faultPlace (1 : Int32) (1 : Int32) (fun (r_13 : Int32) (M_faultKind_11 : Int32) (M_faultPlace_12 : Int32) => ((¬ r_13 = 0 → (p_M_cut M_size M_at M_to M_sort M_worth M_tape (fun (M_at_15 : Int32) (M_to_16 : Int32) (M_sort_17 : Int32) (M_worth_18 : Int32) => (k (1 : Int32) M_at_15 M_to_16 M_sort_17 M_worth_18 M_faultKind_11 M_faultPlace_12)))) ∧ (r_13 = 0 → (k (0 : Int32) M_at M_to M_sort M_worth M_faultKind_11 M_faultPlace_12)))))))
abbrev rm_M_takes : Room := { frames := 2, cells := 0, slots := 0, locals := 43 }
set_option maxHeartbeats 4000000 in
set_option maxRecDepth 100000 in
theorem c_M_takes {l : Launch} {D : va_G} {ca : Nat → ClassId} {tp : Nat} {am : Nat → Nat} {M_clauses : Int32} {M_given : Int32} {M_end : Int32} {M_taped : Int32} {M_size : Int32} {M_at : Int32} {M_to : Int32} {M_sort : Int32} {M_worth : Int32} {M_faultKind : Int32} {M_faultPlace : Int32} {M_isTold : Int32} {M_nodes : Int32} {M_plain : Nat → Int32} {M_minus : Nat → Int32} {M_block : Nat → Int32} {M_left : Nat → Int32} {M_right : Nat → Int32} {M_pivot : Nat → Int32} {M_live : Nat → Int32} {M_needed : Nat → Int32} {M_label : Nat → Int32} {M_tape : Nat → Int32} {M_of : Nat → Int64} {M_kept : Nat → Int64} {M_had : Nat → Int32} {M_told : Nat → Int64} {M_first : Nat → Int64} {M_second : Nat → Int64} {M_node : Nat → Int64} {M_nodeVariable : Nat → Int32} {M_nodeLow : Nat → Int32} {M_nodeHigh : Nat → Int32} {M_wait : Nat → Int32} {x1 : Int32} {k : Int32 → Int32 → Int32 → Int32 → Int32 → Int32 → Int32 → Prop} (h : p_M_takes M_size M_at M_to M_sort M_worth M_faultKind M_faultPlace M_tape x1 k) :
    MTi l y_M_takes b_M_takes 2 (some .boolean) rm_M_takes D ca tp [.ref (am 0), .int x1] (WM am ca M_clauses M_given M_end M_taped M_size M_at M_to M_sort M_worth M_faultKind M_faultPlace M_isTold M_nodes M_plain M_minus M_block M_left M_right M_pivot M_live M_needed M_label M_tape M_of M_kept M_had M_told M_first M_second M_node M_nodeVariable M_nodeLow M_nodeHigh M_wait)
      (fun r (u : Int32 × Int32 × Int32 × Int32 × Int32 × Int32) => k r u.1 u.2.1 u.2.2.1 u.2.2.2.1 u.2.2.2.2.1 u.2.2.2.2.2)
      (fun (u : Int32 × Int32 × Int32 × Int32 × Int32 × Int32) => WM am ca M_clauses M_given M_end M_taped M_size u.1 u.2.1 u.2.2.1 u.2.2.2.1 u.2.2.2.2.1 u.2.2.2.2.2 M_isTold M_nodes M_plain M_minus M_block M_left M_right M_pivot M_live M_needed M_label M_tape M_of M_kept M_had M_told M_first M_second M_node M_nodeVariable M_nodeLow M_nodeHigh M_wait) 0 0 := by
  refine x_entryi (own := R_M) (nm := "takes") (by decide) rfl rfl (Nat.le_of_ble_eq_true rfl) (fun p e s m below meth c A ls C0 hw hl => ?_)
  have hx := C0.1
  have hb := C0.2.1
  have hl : lv_has ls 2 [(0, .ref (am 0)), (1, .int x1)] := hl
  unfold p_M_takes at h
  refine lv_aload_n hx hb d_M_takes_0 rfl (lv_at hl 0 rfl) ?_
  refine lv_aload_n hx hb d_M_takes_1 rfl (lv_at hl 0 rfl) ?_
  refine x_get C0 hw 0 rfl rfl i_M 17 (by decide) wm_742 rfl rfl d_M_takes_2 ?_
  refine lv_iload_n hx hb d_M_takes_5 rfl (lv_at hl 1 rfl) ?_
  refine lv_icmp_ne (tgt := 13) hx hb d_M_takes_6 (by decide) (fun c_1 => ?_) (fun c_1 => ?_)
  · have h := h.1 c_1
    refine lv_iconst (v := 0) hx hb d_M_takes_13 (by decide) ?_
    refine lv_iconst (v := 1) hx hb d_M_takes_14 (by decide) ?_
    refine x_callVi C0 hw hl (c_M_need h) g_M_need wm_851 ⟨wm_35, wm_853⟩ 0 rfl rfl rfl (As := [.int (0 : Int32), .int (1 : Int32)]) (rest := []) rfl rfl (Nat.le_of_ble_eq_true rfl) ⟨rfl, rfl⟩ ⟨Nat.le_of_ble_eq_true rfl, Nat.le_of_ble_eq_true rfl⟩ ⟨Nat.le_of_ble_eq_true rfl, Nat.le_of_ble_eq_true rfl⟩ d_M_takes_15 (fun r_4 u H locs h hw => ?_)
    obtain ⟨M_faultKind_2, M_faultPlace_3⟩ := u
    refine lv_if_ne (tgt := 23) hx hb d_M_takes_18 (by decide) (fun c_5 => ?_) (fun c_5 => ?_)
    · have h := h.1 c_5
      refine lv_aload_n hx hb d_M_takes_23 rfl (lv_at hl 0 rfl) ?_
      refine x_callVv C0 hw hl (c_M_cut h) g_M_cut wm_840 ⟨wm_33, wm_842⟩ 0 rfl rfl rfl (As := []) (rest := []) rfl rfl (Nat.le_of_ble_eq_true rfl) ⟨rfl, rfl⟩ ⟨Nat.le_of_ble_eq_true rfl, Nat.le_of_ble_eq_true rfl⟩ ⟨Nat.le_of_ble_eq_true rfl, Nat.le_of_ble_eq_true rfl⟩ d_M_takes_24 (fun u H locs h hw => ?_)
      obtain ⟨M_at_6, M_to_7, M_sort_8, M_worth_9⟩ := u
      refine lv_iconst (v := 1) hx hb d_M_takes_27 (by decide) ?_
      exact x_zret C0 hw rfl (M_at_6, M_to_7, M_sort_8, M_worth_9, M_faultKind_2, M_faultPlace_3) h rfl d_M_takes_28
    · have h := h.2 c_5
      refine lv_iconst (v := 0) hx hb d_M_takes_21 (by decide) ?_
      exact x_zret C0 hw rfl (M_at, M_to, M_sort, M_worth, M_faultKind_2, M_faultPlace_3) h rfl d_M_takes_22
  · have h := h.2 c_1
    refine lv_iconst (v := 1) hx hb d_M_takes_9 (by decide) ?_
    refine lv_goto (tgt := 14) hx hb d_M_takes_10 (by decide) ?_
    refine lv_iconst (v := 1) hx hb d_M_takes_14 (by decide) ?_
    refine x_callVi C0 hw hl (c_M_need h) g_M_need wm_851 ⟨wm_35, wm_853⟩ 0 rfl rfl rfl (As := [.int (1 : Int32), .int (1 : Int32)]) (rest := []) rfl rfl (Nat.le_of_ble_eq_true rfl) ⟨rfl, rfl⟩ ⟨Nat.le_of_ble_eq_true rfl, Nat.le_of_ble_eq_true rfl⟩ ⟨Nat.le_of_ble_eq_true rfl, Nat.le_of_ble_eq_true rfl⟩ d_M_takes_15 (fun r_13 u H locs h hw => ?_)
    obtain ⟨M_faultKind_11, M_faultPlace_12⟩ := u
    refine lv_if_ne (tgt := 23) hx hb d_M_takes_18 (by decide) (fun c_14 => ?_) (fun c_14 => ?_)
    · have h := h.1 c_14
      refine lv_aload_n hx hb d_M_takes_23 rfl (lv_at hl 0 rfl) ?_
      refine x_callVv C0 hw hl (c_M_cut h) g_M_cut wm_840 ⟨wm_33, wm_842⟩ 0 rfl rfl rfl (As := []) (rest := []) rfl rfl (Nat.le_of_ble_eq_true rfl) ⟨rfl, rfl⟩ ⟨Nat.le_of_ble_eq_true rfl, Nat.le_of_ble_eq_true rfl⟩ ⟨Nat.le_of_ble_eq_true rfl, Nat.le_of_ble_eq_true rfl⟩ d_M_takes_24 (fun u H locs h hw => ?_)
      obtain ⟨M_at_15, M_to_16, M_sort_17, M_worth_18⟩ := u
      refine lv_iconst (v := 1) hx hb d_M_takes_27 (by decide) ?_
      exact x_zret C0 hw rfl (M_at_15, M_to_16, M_sort_17, M_worth_18, M_faultKind_11, M_faultPlace_12) h rfl d_M_takes_28
    · have h := h.2 c_14
      refine lv_iconst (v := 0) hx hb d_M_takes_21 (by decide) ?_
      exact x_zret C0 hw rfl (M_at, M_to, M_sort, M_worth, M_faultKind_11, M_faultPlace_12) h rfl d_M_takes_22
theorem g_M_empty : GY y_M_empty b_M_empty 2 (some .int) 0 := ⟨wm_878, wm_62, by decide +kernel, by decide +kernel, by decide +kernel⟩
def p_M_empty_L2 (M_clauses : Int32) (M_plain : Nat → Int32) (M_minus : Nat → Int32) (k : Int32 → Prop) : Nat → Int32 → Prop
  | 0, _ => False
  | n + 1, x1 =>
    ((M_clauses < x1 → (k (-1 : Int32))) ∧ (¬ M_clauses < x1 → (vp_in x1 202 ∧ ((¬ (M_plain x1.toNatClampNeg) = 0 → (p_M_empty_L2 M_clauses M_plain M_minus k n (x1 + 1))) ∧ ((M_plain x1.toNatClampNeg) = 0 → ((¬ (M_minus x1.toNatClampNeg) = 0 → (p_M_empty_L2 M_clauses M_plain M_minus k n (x1 + 1))) ∧ ((M_minus x1.toNatClampNeg) = 0 → (k x1))))))))
def p_M_empty (M_clauses : Int32) (M_plain : Nat → Int32) (M_minus : Nat → Int32) (k : Int32 → Prop) : Prop :=
  (∃ j_5, p_M_empty_L2 M_clauses M_plain M_minus k j_5 (1 : Int32))
abbrev rm_M_empty : Room := { frames := 0, cells := 0, slots := 0, locals := 0 }
set_option maxHeartbeats 4000000 in
set_option maxRecDepth 100000 in
theorem b_M_empty_L2 {p : Program} {l : Launch} {e : Env} {s : State} {m : MethodId} {args : Array Value} {below : List Frame} {meth : Method} {c : Code} {D : va_G} {ca : Nat → ClassId} {tp : Nat} {A : Nat → Prop} {am : Nat → Nat} {M_clauses : Int32} {M_given : Int32} {M_end : Int32} {M_taped : Int32} {M_size : Int32} {M_at : Int32} {M_to : Int32} {M_sort : Int32} {M_worth : Int32} {M_faultKind : Int32} {M_faultPlace : Int32} {M_isTold : Int32} {M_nodes : Int32} {M_plain : Nat → Int32} {M_minus : Nat → Int32} {M_block : Nat → Int32} {M_left : Nat → Int32} {M_right : Nat → Int32} {M_pivot : Nat → Int32} {M_live : Nat → Int32} {M_needed : Nat → Int32} {M_label : Nat → Int32} {M_tape : Nat → Int32} {M_of : Nat → Int64} {M_kept : Nat → Int64} {M_had : Nat → Int32} {M_told : Nat → Int64} {M_first : Nat → Int64} {M_second : Nat → Int64} {M_node : Nat → Int64} {M_nodeVariable : Nat → Int32} {M_nodeLow : Nat → Int32} {M_nodeHigh : Nat → Int32} {M_wait : Nat → Int32}  {k : Int32 → Prop}  (C0 : CX p s m args meth c b_M_empty 2 (some .int) R_M "empty" D ca tp A) :
    ∀ (n : Nat) (x1 : Int32) {H : Heap} {locs : List Loc} {ls : Array Slot}, p_M_empty_L2 M_clauses M_plain M_minus k n x1 → WH D A s (WM am ca M_clauses M_given M_end M_taped M_size M_at M_to M_sort M_worth M_faultKind M_faultPlace M_isTold M_nodes M_plain M_minus M_block M_left M_right M_pivot M_live M_needed M_label M_tape M_of M_kept M_had M_told M_first M_second M_node M_nodeVariable M_nodeLow M_nodeHigh M_wait) H locs → lv_has ls 2 [(0, .ref (am 0)), (1, .int x1)] →
      W p l e rm_M_empty s m args below meth c H locs 0 0 (QI D A below args s (fun r (_ : Unit) => k r) (fun (_ : Unit) => WM am ca M_clauses M_given M_end M_taped M_size M_at M_to M_sort M_worth M_faultKind M_faultPlace M_isTold M_nodes M_plain M_minus M_block M_left M_right M_pivot M_live M_needed M_label M_tape M_of M_kept M_had M_told M_first M_second M_node M_nodeVariable M_nodeLow M_nodeHigh M_wait) 0 0) (F0 m 2 ls []) := by
  have hx := C0.1
  have hb := C0.2.1
  intro n
  induction n with
  | zero =>
    intro x1 H locs ls h
    exact False.elim h
  | succ n ih =>
    intro x1 H locs ls h hw hl
    unfold p_M_empty_L2 at h
    refine lv_iload_n hx hb d_M_empty_2 rfl (lv_at hl 1 rfl) ?_
    refine lv_aload_n hx hb d_M_empty_3 rfl (lv_at hl 0 rfl) ?_
    refine x_get C0 hw 0 rfl rfl i_M 8 (by decide) wm_733 rfl rfl d_M_empty_4 ?_
    refine lv_icmp_gt (tgt := 36) hx hb d_M_empty_7 (by decide) (fun c_1 => ?_) (fun c_1 => ?_)
    · have h := h.1 c_1
      refine lv_iconst (v := -1) hx hb d_M_empty_36 (by decide) ?_
      exact x_iret C0 hw () h rfl d_M_empty_37
    · have h := h.2 c_1
      refine lv_aload_n hx hb d_M_empty_10 rfl (lv_at hl 0 rfl) ?_
      refine x_get C0 hw 0 rfl rfl i_M 0 (by decide) wm_725 rfl rfl d_M_empty_11 ?_
      refine lv_iload_n hx hb d_M_empty_14 rfl (lv_at hl 1 rfl) ?_
      obtain ⟨hi_2, h⟩ := h
      refine x_iald C0 hw 1 rfl hi_2 d_M_empty_15 ?_
      refine lv_if_ne (tgt := 30) hx hb d_M_empty_16 (by decide) (fun c_3 => ?_) (fun c_3 => ?_)
      · have h := h.1 c_3
        refine lv_iinc (v := (x1 + 1)) (lv' := [(1, .int (x1 + 1)), (0, .ref (am 0))]) hx hb d_M_empty_30 hl (k := 1) rfl rfl (by decide) rfl (fun ls hl => ?_)
        refine lv_goto (tgt := 2) hx hb d_M_empty_33 (by decide) ?_
        exact ih _ h hw (lv_sub hl [1, 0] rfl)
      · have h := h.2 c_3
        refine lv_aload_n hx hb d_M_empty_19 rfl (lv_at hl 0 rfl) ?_
        refine x_get C0 hw 0 rfl rfl i_M 1 (by decide) wm_726 rfl rfl d_M_empty_20 ?_
        refine lv_iload_n hx hb d_M_empty_23 rfl (lv_at hl 1 rfl) ?_
        refine x_iald C0 hw 2 rfl hi_2 d_M_empty_24 ?_
        refine lv_if_ne (tgt := 30) hx hb d_M_empty_25 (by decide) (fun c_4 => ?_) (fun c_4 => ?_)
        · have h := h.1 c_4
          refine lv_iinc (v := (x1 + 1)) (lv' := [(1, .int (x1 + 1)), (0, .ref (am 0))]) hx hb d_M_empty_30 hl (k := 1) rfl rfl (by decide) rfl (fun ls hl => ?_)
          refine lv_goto (tgt := 2) hx hb d_M_empty_33 (by decide) ?_
          exact ih _ h hw (lv_sub hl [1, 0] rfl)
        · have h := h.2 c_4
          refine lv_iload_n hx hb d_M_empty_28 rfl (lv_at hl 1 rfl) ?_
          exact x_iret C0 hw () h rfl d_M_empty_29
set_option maxHeartbeats 4000000 in
set_option maxRecDepth 100000 in
theorem c_M_empty {l : Launch} {D : va_G} {ca : Nat → ClassId} {tp : Nat} {am : Nat → Nat} {M_clauses : Int32} {M_given : Int32} {M_end : Int32} {M_taped : Int32} {M_size : Int32} {M_at : Int32} {M_to : Int32} {M_sort : Int32} {M_worth : Int32} {M_faultKind : Int32} {M_faultPlace : Int32} {M_isTold : Int32} {M_nodes : Int32} {M_plain : Nat → Int32} {M_minus : Nat → Int32} {M_block : Nat → Int32} {M_left : Nat → Int32} {M_right : Nat → Int32} {M_pivot : Nat → Int32} {M_live : Nat → Int32} {M_needed : Nat → Int32} {M_label : Nat → Int32} {M_tape : Nat → Int32} {M_of : Nat → Int64} {M_kept : Nat → Int64} {M_had : Nat → Int32} {M_told : Nat → Int64} {M_first : Nat → Int64} {M_second : Nat → Int64} {M_node : Nat → Int64} {M_nodeVariable : Nat → Int32} {M_nodeLow : Nat → Int32} {M_nodeHigh : Nat → Int32} {M_wait : Nat → Int32}  {k : Int32 → Prop} (h : p_M_empty M_clauses M_plain M_minus k) :
    MTi l y_M_empty b_M_empty 2 (some .int) rm_M_empty D ca tp [.ref (am 0)] (WM am ca M_clauses M_given M_end M_taped M_size M_at M_to M_sort M_worth M_faultKind M_faultPlace M_isTold M_nodes M_plain M_minus M_block M_left M_right M_pivot M_live M_needed M_label M_tape M_of M_kept M_had M_told M_first M_second M_node M_nodeVariable M_nodeLow M_nodeHigh M_wait)
      (fun r (_ : Unit) => k r)
      (fun (_ : Unit) => WM am ca M_clauses M_given M_end M_taped M_size M_at M_to M_sort M_worth M_faultKind M_faultPlace M_isTold M_nodes M_plain M_minus M_block M_left M_right M_pivot M_live M_needed M_label M_tape M_of M_kept M_had M_told M_first M_second M_node M_nodeVariable M_nodeLow M_nodeHigh M_wait) 0 0 := by
  refine x_entryi (own := R_M) (nm := "empty") (by decide) rfl rfl (Nat.le_of_ble_eq_true rfl) (fun p e s m below meth c A ls C0 hw hl => ?_)
  have hx := C0.1
  have hb := C0.2.1
  have hl : lv_has ls 2 [(0, .ref (am 0))] := hl
  unfold p_M_empty at h
  refine lv_iconst (v := 1) hx hb d_M_empty_0 (by decide) ?_
  refine lv_istore_n (lv' := [(1, .int (1 : Int32)), (0, .ref (am 0))]) hx hb d_M_empty_1 rfl hl (by decide) rfl (fun ls hl => ?_)
  obtain ⟨j_5, h⟩ := h
  refine b_M_empty_L2 C0 _ _ h hw (lv_sub hl [1, 0] rfl)
theorem g_M_add : GY y_M_add b_M_add 7 none 6 := ⟨wm_862, wm_62, by decide +kernel, by decide +kernel, by decide +kernel⟩
def p_M_add (M_clauses : Int32) (M_given : Int32) (M_plain : Nat → Int32) (M_minus : Nat → Int32) (M_block : Nat → Int32) (M_left : Nat → Int32) (M_right : Nat → Int32) (M_pivot : Nat → Int32) (M_live : Nat → Int32) (x1 : Int32) (x2 : Int32) (x3 : Int32) (x4 : Int32) (x5 : Int32) (x6 : Int32) (k : Int32 → Int32 → (Nat → Int32) → (Nat → Int32) → (Nat → Int32) → (Nat → Int32) → (Nat → Int32) → (Nat → Int32) → (Nat → Int32) → Prop) : Prop :=
  (vp_in (M_clauses + (1 : Int32)) 202 ∧ ((x3 ≤ 0 → (k (M_clauses + (1 : Int32)) (M_given + (0 : Int32)) (upd M_plain (M_clauses + (1 : Int32)).toNatClampNeg x1) (upd M_minus (M_clauses + (1 : Int32)).toNatClampNeg x2) (upd M_block (M_clauses + (1 : Int32)).toNatClampNeg x3) (upd M_left (M_clauses + (1 : Int32)).toNatClampNeg x4) (upd M_right (M_clauses + (1 : Int32)).toNatClampNeg x5) (upd M_pivot (M_clauses + (1 : Int32)).toNatClampNeg x6) (upd M_live (M_clauses + (1 : Int32)).toNatClampNeg (1 : Int32)))) ∧ (¬ x3 ≤ 0 → (k (M_clauses + (1 : Int32)) (M_given + (1 : Int32)) (upd M_plain (M_clauses + (1 : Int32)).toNatClampNeg x1) (upd M_minus (M_clauses + (1 : Int32)).toNatClampNeg x2) (upd M_block (M_clauses + (1 : Int32)).toNatClampNeg x3) (upd M_left (M_clauses + (1 : Int32)).toNatClampNeg x4) (upd M_right (M_clauses + (1 : Int32)).toNatClampNeg x5) (upd M_pivot (M_clauses + (1 : Int32)).toNatClampNeg x6) (upd M_live (M_clauses + (1 : Int32)).toNatClampNeg (1 : Int32))))))
abbrev rm_M_add : Room := { frames := 0, cells := 0, slots := 0, locals := 0 }
set_option maxHeartbeats 4000000 in
set_option maxRecDepth 100000 in
theorem c_M_add {l : Launch} {D : va_G} {ca : Nat → ClassId} {tp : Nat} {am : Nat → Nat} {M_clauses : Int32} {M_given : Int32} {M_end : Int32} {M_taped : Int32} {M_size : Int32} {M_at : Int32} {M_to : Int32} {M_sort : Int32} {M_worth : Int32} {M_faultKind : Int32} {M_faultPlace : Int32} {M_isTold : Int32} {M_nodes : Int32} {M_plain : Nat → Int32} {M_minus : Nat → Int32} {M_block : Nat → Int32} {M_left : Nat → Int32} {M_right : Nat → Int32} {M_pivot : Nat → Int32} {M_live : Nat → Int32} {M_needed : Nat → Int32} {M_label : Nat → Int32} {M_tape : Nat → Int32} {M_of : Nat → Int64} {M_kept : Nat → Int64} {M_had : Nat → Int32} {M_told : Nat → Int64} {M_first : Nat → Int64} {M_second : Nat → Int64} {M_node : Nat → Int64} {M_nodeVariable : Nat → Int32} {M_nodeLow : Nat → Int32} {M_nodeHigh : Nat → Int32} {M_wait : Nat → Int32} {x1 : Int32} {x2 : Int32} {x3 : Int32} {x4 : Int32} {x5 : Int32} {x6 : Int32} {k : Int32 → Int32 → (Nat → Int32) → (Nat → Int32) → (Nat → Int32) → (Nat → Int32) → (Nat → Int32) → (Nat → Int32) → (Nat → Int32) → Prop} (h : p_M_add M_clauses M_given M_plain M_minus M_block M_left M_right M_pivot M_live x1 x2 x3 x4 x5 x6 k) :
    MTv l y_M_add b_M_add 7 none rm_M_add D ca tp [.ref (am 0), .int x1, .int x2, .int x3, .int x4, .int x5, .int x6] (WM am ca M_clauses M_given M_end M_taped M_size M_at M_to M_sort M_worth M_faultKind M_faultPlace M_isTold M_nodes M_plain M_minus M_block M_left M_right M_pivot M_live M_needed M_label M_tape M_of M_kept M_had M_told M_first M_second M_node M_nodeVariable M_nodeLow M_nodeHigh M_wait)
      (fun (u : Int32 × Int32 × (Nat → Int32) × (Nat → Int32) × (Nat → Int32) × (Nat → Int32) × (Nat → Int32) × (Nat → Int32) × (Nat → Int32)) => k u.1 u.2.1 u.2.2.1 u.2.2.2.1 u.2.2.2.2.1 u.2.2.2.2.2.1 u.2.2.2.2.2.2.1 u.2.2.2.2.2.2.2.1 u.2.2.2.2.2.2.2.2)
      (fun (u : Int32 × Int32 × (Nat → Int32) × (Nat → Int32) × (Nat → Int32) × (Nat → Int32) × (Nat → Int32) × (Nat → Int32) × (Nat → Int32)) => WM am ca u.1 u.2.1 M_end M_taped M_size M_at M_to M_sort M_worth M_faultKind M_faultPlace M_isTold M_nodes u.2.2.1 u.2.2.2.1 u.2.2.2.2.1 u.2.2.2.2.2.1 u.2.2.2.2.2.2.1 u.2.2.2.2.2.2.2.1 u.2.2.2.2.2.2.2.2 M_needed M_label M_tape M_of M_kept M_had M_told M_first M_second M_node M_nodeVariable M_nodeLow M_nodeHigh M_wait) 0 0 := by
  refine x_entryv (own := R_M) (nm := "add") (by decide) rfl rfl (Nat.le_of_ble_eq_true rfl) (fun p e s m below meth c A ls C0 hw hl => ?_)
  have hx := C0.1
  have hb := C0.2.1
  have hl : lv_has ls 7 [(0, .ref (am 0)), (1, .int x1), (2, .int x2), (3, .int x3), (4, .int x4), (5, .int x5), (6, .int x6)] := hl
  unfold p_M_add at h
  refine lv_aload_n hx hb d_M_add_0 rfl (lv_at hl 0 rfl) ?_
  refine lv_dup hx hb d_M_add_1 rfl ?_
  refine x_get C0 hw 0 rfl rfl i_M 8 (by decide) wm_733 rfl rfl d_M_add_2 ?_
  refine lv_iconst (v := 1) hx hb d_M_add_5 (by decide) ?_
  refine lv_iadd hx hb d_M_add_6 ?_
  refine x_put C0 hw 0 rfl rfl i_M tk_M n_M 8 (by decide) wm_733 rfl rfl rfl rfl (Nat.le_of_ble_eq_true rfl) (ws' := WM am ca (M_clauses + (1 : Int32)) M_given M_end M_taped M_size M_at M_to M_sort M_worth M_faultKind M_faultPlace M_isTold M_nodes M_plain M_minus M_block M_left M_right M_pivot M_live M_needed M_label M_tape M_of M_kept M_had M_told M_first M_second M_node M_nodeVariable M_nodeLow M_nodeHigh M_wait) rfl d_M_add_7 (fun H locs hw => ?_)
  refine lv_aload_n hx hb d_M_add_10 rfl (lv_at hl 0 rfl) ?_
  refine x_get C0 hw 0 rfl rfl i_M 0 (by decide) wm_725 rfl rfl d_M_add_11 ?_
  refine lv_aload_n hx hb d_M_add_14 rfl (lv_at hl 0 rfl) ?_
  refine x_get C0 hw 0 rfl rfl i_M 8 (by decide) wm_733 rfl rfl d_M_add_15 ?_
  refine lv_iload_n hx hb d_M_add_18 rfl (lv_at hl 1 rfl) ?_
  obtain ⟨hi_1, h⟩ := h
  refine x_iast C0 hw 1 rfl hi_1 (ws' := WM am ca (M_clauses + (1 : Int32)) M_given M_end M_taped M_size M_at M_to M_sort M_worth M_faultKind M_faultPlace M_isTold M_nodes (upd M_plain (M_clauses + (1 : Int32)).toNatClampNeg x1) M_minus M_block M_left M_right M_pivot M_live M_needed M_label M_tape M_of M_kept M_had M_told M_first M_second M_node M_nodeVariable M_nodeLow M_nodeHigh M_wait) rfl d_M_add_19 (fun H locs hw => ?_)
  refine lv_aload_n hx hb d_M_add_20 rfl (lv_at hl 0 rfl) ?_
  refine x_get C0 hw 0 rfl rfl i_M 1 (by decide) wm_726 rfl rfl d_M_add_21 ?_
  refine lv_aload_n hx hb d_M_add_24 rfl (lv_at hl 0 rfl) ?_
  refine x_get C0 hw 0 rfl rfl i_M 8 (by decide) wm_733 rfl rfl d_M_add_25 ?_
  refine lv_iload_n hx hb d_M_add_28 rfl (lv_at hl 2 rfl) ?_
  refine x_iast C0 hw 2 rfl hi_1 (ws' := WM am ca (M_clauses + (1 : Int32)) M_given M_end M_taped M_size M_at M_to M_sort M_worth M_faultKind M_faultPlace M_isTold M_nodes (upd M_plain (M_clauses + (1 : Int32)).toNatClampNeg x1) (upd M_minus (M_clauses + (1 : Int32)).toNatClampNeg x2) M_block M_left M_right M_pivot M_live M_needed M_label M_tape M_of M_kept M_had M_told M_first M_second M_node M_nodeVariable M_nodeLow M_nodeHigh M_wait) rfl d_M_add_29 (fun H locs hw => ?_)
  refine lv_aload_n hx hb d_M_add_30 rfl (lv_at hl 0 rfl) ?_
  refine x_get C0 hw 0 rfl rfl i_M 2 (by decide) wm_727 rfl rfl d_M_add_31 ?_
  refine lv_aload_n hx hb d_M_add_34 rfl (lv_at hl 0 rfl) ?_
  refine x_get C0 hw 0 rfl rfl i_M 8 (by decide) wm_733 rfl rfl d_M_add_35 ?_
  refine lv_iload_n hx hb d_M_add_38 rfl (lv_at hl 3 rfl) ?_
  refine x_iast C0 hw 3 rfl hi_1 (ws' := WM am ca (M_clauses + (1 : Int32)) M_given M_end M_taped M_size M_at M_to M_sort M_worth M_faultKind M_faultPlace M_isTold M_nodes (upd M_plain (M_clauses + (1 : Int32)).toNatClampNeg x1) (upd M_minus (M_clauses + (1 : Int32)).toNatClampNeg x2) (upd M_block (M_clauses + (1 : Int32)).toNatClampNeg x3) M_left M_right M_pivot M_live M_needed M_label M_tape M_of M_kept M_had M_told M_first M_second M_node M_nodeVariable M_nodeLow M_nodeHigh M_wait) rfl d_M_add_39 (fun H locs hw => ?_)
  refine lv_aload_n hx hb d_M_add_40 rfl (lv_at hl 0 rfl) ?_
  refine x_get C0 hw 0 rfl rfl i_M 3 (by decide) wm_728 rfl rfl d_M_add_41 ?_
  refine lv_aload_n hx hb d_M_add_44 rfl (lv_at hl 0 rfl) ?_
  refine x_get C0 hw 0 rfl rfl i_M 8 (by decide) wm_733 rfl rfl d_M_add_45 ?_
  refine lv_iload hx hb d_M_add_48 (lv_at hl 4 rfl) ?_
  refine x_iast C0 hw 4 rfl hi_1 (ws' := WM am ca (M_clauses + (1 : Int32)) M_given M_end M_taped M_size M_at M_to M_sort M_worth M_faultKind M_faultPlace M_isTold M_nodes (upd M_plain (M_clauses + (1 : Int32)).toNatClampNeg x1) (upd M_minus (M_clauses + (1 : Int32)).toNatClampNeg x2) (upd M_block (M_clauses + (1 : Int32)).toNatClampNeg x3) (upd M_left (M_clauses + (1 : Int32)).toNatClampNeg x4) M_right M_pivot M_live M_needed M_label M_tape M_of M_kept M_had M_told M_first M_second M_node M_nodeVariable M_nodeLow M_nodeHigh M_wait) rfl d_M_add_50 (fun H locs hw => ?_)
  refine lv_aload_n hx hb d_M_add_51 rfl (lv_at hl 0 rfl) ?_
  refine x_get C0 hw 0 rfl rfl i_M 4 (by decide) wm_729 rfl rfl d_M_add_52 ?_
  refine lv_aload_n hx hb d_M_add_55 rfl (lv_at hl 0 rfl) ?_
  refine x_get C0 hw 0 rfl rfl i_M 8 (by decide) wm_733 rfl rfl d_M_add_56 ?_
  refine lv_iload hx hb d_M_add_59 (lv_at hl 5 rfl) ?_
  refine x_iast C0 hw 5 rfl hi_1 (ws' := WM am ca (M_clauses + (1 : Int32)) M_given M_end M_taped M_size M_at M_to M_sort M_worth M_faultKind M_faultPlace M_isTold M_nodes (upd M_plain (M_clauses + (1 : Int32)).toNatClampNeg x1) (upd M_minus (M_clauses + (1 : Int32)).toNatClampNeg x2) (upd M_block (M_clauses + (1 : Int32)).toNatClampNeg x3) (upd M_left (M_clauses + (1 : Int32)).toNatClampNeg x4) (upd M_right (M_clauses + (1 : Int32)).toNatClampNeg x5) M_pivot M_live M_needed M_label M_tape M_of M_kept M_had M_told M_first M_second M_node M_nodeVariable M_nodeLow M_nodeHigh M_wait) rfl d_M_add_61 (fun H locs hw => ?_)
  refine lv_aload_n hx hb d_M_add_62 rfl (lv_at hl 0 rfl) ?_
  refine x_get C0 hw 0 rfl rfl i_M 5 (by decide) wm_730 rfl rfl d_M_add_63 ?_
  refine lv_aload_n hx hb d_M_add_66 rfl (lv_at hl 0 rfl) ?_
  refine x_get C0 hw 0 rfl rfl i_M 8 (by decide) wm_733 rfl rfl d_M_add_67 ?_
  refine lv_iload hx hb d_M_add_70 (lv_at hl 6 rfl) ?_
  refine x_iast C0 hw 6 rfl hi_1 (ws' := WM am ca (M_clauses + (1 : Int32)) M_given M_end M_taped M_size M_at M_to M_sort M_worth M_faultKind M_faultPlace M_isTold M_nodes (upd M_plain (M_clauses + (1 : Int32)).toNatClampNeg x1) (upd M_minus (M_clauses + (1 : Int32)).toNatClampNeg x2) (upd M_block (M_clauses + (1 : Int32)).toNatClampNeg x3) (upd M_left (M_clauses + (1 : Int32)).toNatClampNeg x4) (upd M_right (M_clauses + (1 : Int32)).toNatClampNeg x5) (upd M_pivot (M_clauses + (1 : Int32)).toNatClampNeg x6) M_live M_needed M_label M_tape M_of M_kept M_had M_told M_first M_second M_node M_nodeVariable M_nodeLow M_nodeHigh M_wait) rfl d_M_add_72 (fun H locs hw => ?_)
  refine lv_aload_n hx hb d_M_add_73 rfl (lv_at hl 0 rfl) ?_
  refine x_get C0 hw 0 rfl rfl i_M 6 (by decide) wm_731 rfl rfl d_M_add_74 ?_
  refine lv_aload_n hx hb d_M_add_77 rfl (lv_at hl 0 rfl) ?_
  refine x_get C0 hw 0 rfl rfl i_M 8 (by decide) wm_733 rfl rfl d_M_add_78 ?_
  refine lv_iconst (v := 1) hx hb d_M_add_81 (by decide) ?_
  refine x_zast C0 hw 7 rfl hi_1 (ws' := WM am ca (M_clauses + (1 : Int32)) M_given M_end M_taped M_size M_at M_to M_sort M_worth M_faultKind M_faultPlace M_isTold M_nodes (upd M_plain (M_clauses + (1 : Int32)).toNatClampNeg x1) (upd M_minus (M_clauses + (1 : Int32)).toNatClampNeg x2) (upd M_block (M_clauses + (1 : Int32)).toNatClampNeg x3) (upd M_left (M_clauses + (1 : Int32)).toNatClampNeg x4) (upd M_right (M_clauses + (1 : Int32)).toNatClampNeg x5) (upd M_pivot (M_clauses + (1 : Int32)).toNatClampNeg x6) (upd M_live (M_clauses + (1 : Int32)).toNatClampNeg (1 : Int32)) M_needed M_label M_tape M_of M_kept M_had M_told M_first M_second M_node M_nodeVariable M_nodeLow M_nodeHigh M_wait) rfl d_M_add_82 (fun H locs hw => ?_)
  refine lv_aload_n hx hb d_M_add_83 rfl (lv_at hl 0 rfl) ?_
  refine lv_dup hx hb d_M_add_84 rfl ?_
  refine x_get C0 hw 0 rfl rfl i_M 9 (by decide) wm_734 rfl rfl d_M_add_85 ?_
  refine lv_iload_n hx hb d_M_add_88 rfl (lv_at hl 3 rfl) ?_
  refine lv_if_le (tgt := 96) hx hb d_M_add_89 (by decide) (fun c_2 => ?_) (fun c_2 => ?_)
  · have h := h.1 c_2
    refine lv_iconst (v := 0) hx hb d_M_add_96 (by decide) ?_
    refine lv_iadd hx hb d_M_add_97 ?_
    refine x_put C0 hw 0 rfl rfl i_M tk_M n_M 9 (by decide) wm_734 rfl rfl rfl rfl (Nat.le_of_ble_eq_true rfl) (ws' := WM am ca (M_clauses + (1 : Int32)) (M_given + (0 : Int32)) M_end M_taped M_size M_at M_to M_sort M_worth M_faultKind M_faultPlace M_isTold M_nodes (upd M_plain (M_clauses + (1 : Int32)).toNatClampNeg x1) (upd M_minus (M_clauses + (1 : Int32)).toNatClampNeg x2) (upd M_block (M_clauses + (1 : Int32)).toNatClampNeg x3) (upd M_left (M_clauses + (1 : Int32)).toNatClampNeg x4) (upd M_right (M_clauses + (1 : Int32)).toNatClampNeg x5) (upd M_pivot (M_clauses + (1 : Int32)).toNatClampNeg x6) (upd M_live (M_clauses + (1 : Int32)).toNatClampNeg (1 : Int32)) M_needed M_label M_tape M_of M_kept M_had M_told M_first M_second M_node M_nodeVariable M_nodeLow M_nodeHigh M_wait) rfl d_M_add_98 (fun H locs hw => ?_)
    exact x_vret C0 hw ((M_clauses + (1 : Int32)), (M_given + (0 : Int32)), (upd M_plain (M_clauses + (1 : Int32)).toNatClampNeg x1), (upd M_minus (M_clauses + (1 : Int32)).toNatClampNeg x2), (upd M_block (M_clauses + (1 : Int32)).toNatClampNeg x3), (upd M_left (M_clauses + (1 : Int32)).toNatClampNeg x4), (upd M_right (M_clauses + (1 : Int32)).toNatClampNeg x5), (upd M_pivot (M_clauses + (1 : Int32)).toNatClampNeg x6), (upd M_live (M_clauses + (1 : Int32)).toNatClampNeg (1 : Int32))) h rfl d_M_add_101
  · have h := h.2 c_2
    refine lv_iconst (v := 1) hx hb d_M_add_92 (by decide) ?_
    refine lv_goto (tgt := 97) hx hb d_M_add_93 (by decide) ?_
    refine lv_iadd hx hb d_M_add_97 ?_
    refine x_put C0 hw 0 rfl rfl i_M tk_M n_M 9 (by decide) wm_734 rfl rfl rfl rfl (Nat.le_of_ble_eq_true rfl) (ws' := WM am ca (M_clauses + (1 : Int32)) (M_given + (1 : Int32)) M_end M_taped M_size M_at M_to M_sort M_worth M_faultKind M_faultPlace M_isTold M_nodes (upd M_plain (M_clauses + (1 : Int32)).toNatClampNeg x1) (upd M_minus (M_clauses + (1 : Int32)).toNatClampNeg x2) (upd M_block (M_clauses + (1 : Int32)).toNatClampNeg x3) (upd M_left (M_clauses + (1 : Int32)).toNatClampNeg x4) (upd M_right (M_clauses + (1 : Int32)).toNatClampNeg x5) (upd M_pivot (M_clauses + (1 : Int32)).toNatClampNeg x6) (upd M_live (M_clauses + (1 : Int32)).toNatClampNeg (1 : Int32)) M_needed M_label M_tape M_of M_kept M_had M_told M_first M_second M_node M_nodeVariable M_nodeLow M_nodeHigh M_wait) rfl d_M_add_98 (fun H locs hw => ?_)
    exact x_vret C0 hw ((M_clauses + (1 : Int32)), (M_given + (1 : Int32)), (upd M_plain (M_clauses + (1 : Int32)).toNatClampNeg x1), (upd M_minus (M_clauses + (1 : Int32)).toNatClampNeg x2), (upd M_block (M_clauses + (1 : Int32)).toNatClampNeg x3), (upd M_left (M_clauses + (1 : Int32)).toNatClampNeg x4), (upd M_right (M_clauses + (1 : Int32)).toNatClampNeg x5), (upd M_pivot (M_clauses + (1 : Int32)).toNatClampNeg x6), (upd M_live (M_clauses + (1 : Int32)).toNatClampNeg (1 : Int32))) h rfl d_M_add_101
theorem g_M_readGiven : GY y_M_readGiven b_M_readGiven 6 none 0 := ⟨wm_850, wm_62, by decide +kernel, by decide +kernel, by decide +kernel⟩
def p_M_readGiven_J232 (M_size : Int32) (M_tape : Nat → Int32) (k : Int32 → Int32 → Int32 → Int32 → Int32 → Int32 → Int32 → Int32 → (Nat → Int32) → (Nat → Int32) → (Nat → Int32) → (Nat → Int32) → (Nat → Int32) → (Nat → Int32) → (Nat → Int32) → Prop) (k113 : Int32 → Int32 → Int32 → Int32 → Int32 → Int32 → Int32 → Int32 → Prop) (x1 : Int32) (x2 : Int32) (x3 : Int32) (x4 : Int32) (x5 : Int32) (t0 : Int32) (M_clauses : Int32) (M_given : Int32) (M_at : Int32) (M_to : Int32) (M_sort : Int32) (M_worth : Int32) (M_faultKind : Int32) (M_faultPlace : Int32) (M_plain : Nat → Int32) (M_minus : Nat → Int32) (M_block : Nat → Int32) (M_left : Nat → Int32) (M_right : Nat → Int32) (M_pivot : Nat → Int32) (M_live : Nat → Int32) : Prop :=
  (p_M_need M_at M_faultKind M_faultPlace t0 (3 : Int32) (fun (r_51 : Int32) (M_faultKind_49 : Int32) (M_faultPlace_50 : Int32) => ((¬ r_51 = 0 → ((x4 = 0 → (p_M_cut M_size M_at M_to M_sort M_worth M_tape (fun (M_at_54 : Int32) (M_to_55 : Int32) (M_sort_56 : Int32) (M_worth_57 : Int32) => (k113 (x2 ||| x5) x3 M_at_54 M_to_55 M_sort_56 M_worth_57 M_faultKind_49 M_faultPlace_50)))) ∧ (¬ x4 = 0 → (p_M_cut M_size M_at M_to M_sort M_worth M_tape (fun (M_at_59 : Int32) (M_to_60 : Int32) (M_sort_61 : Int32) (M_worth_62 : Int32) => (k113 x2 (x3 ||| x5) M_at_59 M_to_60 M_sort_61 M_worth_62 M_faultKind_49 M_faultPlace_50)))))) ∧ (r_51 = 0 → (k M_clauses M_given M_at M_to M_sort M_worth M_faultKind_49 M_faultPlace_50 M_plain M_minus M_block M_left M_right M_pivot M_live)))))
def p_M_readGiven_J199 (M_size : Int32) (M_tape : Nat → Int32) (k : Int32 → Int32 → Int32 → Int32 → Int32 → Int32 → Int32 → Int32 → (Nat → Int32) → (Nat → Int32) → (Nat → Int32) → (Nat → Int32) → (Nat → Int32) → (Nat → Int32) → (Nat → Int32) → Prop) (k113 : Int32 → Int32 → Int32 → Int32 → Int32 → Int32 → Int32 → Int32 → Prop) (x1 : Int32) (x2 : Int32) (x3 : Int32) (x4 : Int32) (t0 : Int32) (M_clauses : Int32) (M_given : Int32) (M_at : Int32) (M_to : Int32) (M_sort : Int32) (M_worth : Int32) (M_faultKind : Int32) (M_faultPlace : Int32) (M_plain : Nat → Int32) (M_minus : Nat → Int32) (M_block : Nat → Int32) (M_left : Nat → Int32) (M_right : Nat → Int32) (M_pivot : Nat → Int32) (M_live : Nat → Int32) : Prop :=
  (p_M_need M_at M_faultKind M_faultPlace t0 (2 : Int32) (fun (r_45 : Int32) (M_faultKind_43 : Int32) (M_faultPlace_44 : Int32) => ((¬ r_45 = 0 → (∀ v5_47 : Int32, v5_47 = ((1 : Int32) <<< ((M_worth - (1 : Int32)) &&& 31)) → ((¬ ((x2 ||| x3) &&& v5_47) = 0 → (p_M_readGiven_J232 M_size M_tape k k113 x1 x2 x3 x4 v5_47 (0 : Int32) M_clauses M_given M_at M_to M_sort M_worth M_faultKind_43 M_faultPlace_44 M_plain M_minus M_block M_left M_right M_pivot M_live)) ∧ (((x2 ||| x3) &&& v5_47) = 0 → (p_M_readGiven_J232 M_size M_tape k k113 x1 x2 x3 x4 v5_47 (1 : Int32) M_clauses M_given M_at M_to M_sort M_worth M_faultKind_43 M_faultPlace_44 M_plain M_minus M_block M_left M_right M_pivot M_live))))) ∧ (r_45 = 0 → (k M_clauses M_given M_at M_to M_sort M_worth M_faultKind_43 M_faultPlace_44 M_plain M_minus M_block M_left M_right M_pivot M_live)))))
def p_M_readGiven_J198 (M_size : Int32) (M_tape : Nat → Int32) (k : Int32 → Int32 → Int32 → Int32 → Int32 → Int32 → Int32 → Int32 → (Nat → Int32) → (Nat → Int32) → (Nat → Int32) → (Nat → Int32) → (Nat → Int32) → (Nat → Int32) → (Nat → Int32) → Prop) (k113 : Int32 → Int32 → Int32 → Int32 → Int32 → Int32 → Int32 → Int32 → Prop) (x1 : Int32) (x2 : Int32) (x3 : Int32) (x4 : Int32) (M_clauses : Int32) (M_given : Int32) (M_at : Int32) (M_to : Int32) (M_sort : Int32) (M_worth : Int32) (M_faultKind : Int32) (M_faultPlace : Int32) (M_plain : Nat → Int32) (M_minus : Nat → Int32) (M_block : Nat → Int32) (M_left : Nat → Int32) (M_right : Nat → Int32) (M_pivot : Nat → Int32) (M_live : Nat → Int32) : Prop :=
  (p_M_readGiven_J199 M_size M_tape k k113 x1 x2 x3 x4 (0 : Int32) M_clauses M_given M_at M_to M_sort M_worth M_faultKind M_faultPlace M_plain M_minus M_block M_left M_right M_pivot M_live)
def p_M_readGiven_J169 (M_size : Int32) (M_tape : Nat → Int32) (k : Int32 → Int32 → Int32 → Int32 → Int32 → Int32 → Int32 → Int32 → (Nat → Int32) → (Nat → Int32) → (Nat → Int32) → (Nat → Int32) → (Nat → Int32) → (Nat → Int32) → (Nat → Int32) → Prop) (k113 : Int32 → Int32 → Int32 → Int32 → Int32 → Int32 → Int32 → Int32 → Prop) (x1 : Int32) (x2 : Int32) (x3 : Int32) (x4 : Int32) (t0 : Int32) (M_clauses : Int32) (M_given : Int32) (M_at : Int32) (M_to : Int32) (M_sort : Int32) (M_worth : Int32) (M_faultKind : Int32) (M_faultPlace : Int32) (M_plain : Nat → Int32) (M_minus : Nat → Int32) (M_block : Nat → Int32) (M_left : Nat → Int32) (M_right : Nat → Int32) (M_pivot : Nat → Int32) (M_live : Nat → Int32) : Prop :=
  (p_M_need M_at M_faultKind M_faultPlace t0 (1 : Int32) (fun (r_40 : Int32) (M_faultKind_38 : Int32) (M_faultPlace_39 : Int32) => ((r_40 = 0 → (k M_clauses M_given M_at M_to M_sort M_worth M_faultKind_38 M_faultPlace_39 M_plain M_minus M_block M_left M_right M_pivot M_live)) ∧ (¬ r_40 = 0 → ((M_worth < (1 : Int32) → (p_M_readGiven_J198 M_size M_tape k k113 x1 x2 x3 x4 M_clauses M_given M_at M_to M_sort M_worth M_faultKind_38 M_faultPlace_39 M_plain M_minus M_block M_left M_right M_pivot M_live)) ∧ (¬ M_worth < (1 : Int32) → (((10 : Int32) < M_worth → (p_M_readGiven_J198 M_size M_tape k k113 x1 x2 x3 x4 M_clauses M_given M_at M_to M_sort M_worth M_faultKind_38 M_faultPlace_39 M_plain M_minus M_block M_left M_right M_pivot M_live)) ∧ (¬ (10 : Int32) < M_worth → (p_M_readGiven_J199 M_size M_tape k k113 x1 x2 x3 x4 (1 : Int32) M_clauses M_given M_at M_to M_sort M_worth M_faultKind_38 M_faultPlace_39 M_plain M_minus M_block M_left M_right M_pivot M_live)))))))))
def p_M_readGiven_J155 (M_size : Int32) (M_tape : Nat → Int32) (k : Int32 → Int32 → Int32 → Int32 → Int32 → Int32 → Int32 → Int32 → (Nat → Int32) → (Nat → Int32) → (Nat → Int32) → (Nat → Int32) → (Nat → Int32) → (Nat → Int32) → (Nat → Int32) → Prop) (k113 : Int32 → Int32 → Int32 → Int32 → Int32 → Int32 → Int32 → Int32 → Prop) (x1 : Int32) (x2 : Int32) (x3 : Int32) (x4 : Int32) (M_clauses : Int32) (M_given : Int32) (M_at : Int32) (M_to : Int32) (M_sort : Int32) (M_worth : Int32) (M_faultKind : Int32) (M_faultPlace : Int32) (M_plain : Nat → Int32) (M_minus : Nat → Int32) (M_block : Nat → Int32) (M_left : Nat → Int32) (M_right : Nat → Int32) (M_pivot : Nat → Int32) (M_live : Nat → Int32) : Prop :=
  ((¬ M_sort = (1 : Int32) → (p_M_readGiven_J169 M_size M_tape k k113 x1 x2 x3 x4 (0 : Int32) M_clauses M_given M_at M_to M_sort M_worth M_faultKind M_faultPlace M_plain M_minus M_block M_left M_right M_pivot M_live)) ∧ (M_sort = (1 : Int32) → (p_M_readGiven_J169 M_size M_tape k k113 x1 x2 x3 x4 (1 : Int32) M_clauses M_given M_at M_to M_sort M_worth M_faultKind M_faultPlace M_plain M_minus M_block M_left M_right M_pivot M_live)))
def p_M_readGiven_J144 (M_size : Int32) (M_tape : Nat → Int32) (k : Int32 → Int32 → Int32 → Int32 → Int32 → Int32 → Int32 → Int32 → (Nat → Int32) → (Nat → Int32) → (Nat → Int32) → (Nat → Int32) → (Nat → Int32) → (Nat → Int32) → (Nat → Int32) → Prop) (k113 : Int32 → Int32 → Int32 → Int32 → Int32 → Int32 → Int32 → Int32 → Prop) (x1 : Int32) (x2 : Int32) (x3 : Int32) (t0 : Int32) (M_clauses : Int32) (M_given : Int32) (M_at : Int32) (M_to : Int32) (M_sort : Int32) (M_worth : Int32) (M_faultKind : Int32) (M_faultPlace : Int32) (M_plain : Nat → Int32) (M_minus : Nat → Int32) (M_block : Nat → Int32) (M_left : Nat → Int32) (M_right : Nat → Int32) (M_pivot : Nat → Int32) (M_live : Nat → Int32) : Prop :=
  ((t0 = 0 → (p_M_readGiven_J155 M_size M_tape k k113 x1 x2 x3 t0 M_clauses M_given M_at M_to M_sort M_worth M_faultKind M_faultPlace M_plain M_minus M_block M_left M_right M_pivot M_live)) ∧ (¬ t0 = 0 → (p_M_cut M_size M_at M_to M_sort M_worth M_tape (fun (M_at_65 : Int32) (M_to_66 : Int32) (M_sort_67 : Int32) (M_worth_68 : Int32) => (p_M_readGiven_J155 M_size M_tape k k113 x1 x2 x3 t0 M_clauses M_given M_at_65 M_to_66 M_sort_67 M_worth_68 M_faultKind M_faultPlace M_plain M_minus M_block M_left M_right M_pivot M_live)))))
def p_M_readGiven_J130 (M_size : Int32) (M_tape : Nat → Int32) (k : Int32 → Int32 → Int32 → Int32 → Int32 → Int32 → Int32 → Int32 → (Nat → Int32) → (Nat → Int32) → (Nat → Int32) → (Nat → Int32) → (Nat → Int32) → (Nat → Int32) → (Nat → Int32) → Prop) (k113 : Int32 → Int32 → Int32 → Int32 → Int32 → Int32 → Int32 → Int32 → Prop) (x1 : Int32) (x2 : Int32) (x3 : Int32) (M_clauses : Int32) (M_given : Int32) (M_at : Int32) (M_to : Int32) (M_sort : Int32) (M_worth : Int32) (M_faultKind : Int32) (M_faultPlace : Int32) (M_plain : Nat → Int32) (M_minus : Nat → Int32) (M_block : Nat → Int32) (M_left : Nat → Int32) (M_right : Nat → Int32) (M_pivot : Nat → Int32) (M_live : Nat → Int32) : Prop :=
  ((¬ M_sort = (45 : Int32) → (p_M_readGiven_J144 M_size M_tape k k113 x1 x2 x3 (0 : Int32) M_clauses M_given M_at M_to M_sort M_worth M_faultKind M_faultPlace M_plain M_minus M_block M_left M_right M_pivot M_live)) ∧ (M_sort = (45 : Int32) → (p_M_readGiven_J144 M_size M_tape k k113 x1 x2 x3 (1 : Int32) M_clauses M_given M_at M_to M_sort M_worth M_faultKind M_faultPlace M_plain M_minus M_block M_left M_right M_pivot M_live)))
def p_M_readGiven_L113 (M_clauses : Int32) (M_given : Int32) (M_size : Int32) (M_plain : Nat → Int32) (M_minus : Nat → Int32) (M_block : Nat → Int32) (M_left : Nat → Int32) (M_right : Nat → Int32) (M_pivot : Nat → Int32) (M_live : Nat → Int32) (M_tape : Nat → Int32) (x1 : Int32) (k : Int32 → Int32 → Int32 → Int32 → Int32 → Int32 → Int32 → Int32 → (Nat → Int32) → (Nat → Int32) → (Nat → Int32) → (Nat → Int32) → (Nat → Int32) → (Nat → Int32) → (Nat → Int32) → Prop) (k265 : Int32 → Int32 → Int32 → Int32 → Int32 → Int32 → Int32 → Int32 → Prop) : Nat → Int32 → Int32 → Int32 → Int32 → Int32 → Int32 → Int32 → Int32 → Prop
  | 0, _, _, _, _, _, _, _, _ => False
  | n + 1, x2, x3, M_at, M_to, M_sort, M_worth, M_faultKind, M_faultPlace =>
    ((M_sort = (45 : Int32) → (p_M_readGiven_J130 M_size M_tape k (p_M_readGiven_L113 M_clauses M_given M_size M_plain M_minus M_block M_left M_right M_pivot M_live M_tape x1 k k265 n) x1 x2 x3 M_clauses M_given M_at M_to M_sort M_worth M_faultKind M_faultPlace M_plain M_minus M_block M_left M_right M_pivot M_live)) ∧ (¬ M_sort = (45 : Int32) → ((¬ M_sort = (1 : Int32) → (k265 x2 x3 M_at M_to M_sort M_worth M_faultKind M_faultPlace)) ∧ (M_sort = (1 : Int32) → (p_M_readGiven_J130 M_size M_tape k (p_M_readGiven_L113 M_clauses M_given M_size M_plain M_minus M_block M_left M_right M_pivot M_live M_tape x1 k k265 n) x1 x2 x3 M_clauses M_given M_at M_to M_sort M_worth M_faultKind M_faultPlace M_plain M_minus M_block M_left M_right M_pivot M_live)))))
def p_M_readGiven_J82 (M_size : Int32) (M_tape : Nat → Int32) (k : Int32 → Int32 → Int32 → Int32 → Int32 → Int32 → Int32 → Int32 → (Nat → Int32) → (Nat → Int32) → (Nat → Int32) → (Nat → Int32) → (Nat → Int32) → (Nat → Int32) → (Nat → Int32) → Prop) (t0 : Int32) (M_clauses : Int32) (M_given : Int32) (M_at : Int32) (M_to : Int32) (M_sort : Int32) (M_worth : Int32) (M_faultKind : Int32) (M_faultPlace : Int32) (M_plain : Nat → Int32) (M_minus : Nat → Int32) (M_block : Nat → Int32) (M_left : Nat → Int32) (M_right : Nat → Int32) (M_pivot : Nat → Int32) (M_live : Nat → Int32) : Prop :=
  (p_M_need M_at M_faultKind M_faultPlace t0 (2 : Int32) (fun (r_19 : Int32) (M_faultKind_17 : Int32) (M_faultPlace_18 : Int32) => ((¬ r_19 = 0 → (p_M_cut M_size M_at M_to M_sort M_worth M_tape (fun (M_at_21 : Int32) (M_to_22 : Int32) (M_sort_23 : Int32) (M_worth_24 : Int32) => (p_M_takes M_size M_at_21 M_to_22 M_sort_23 M_worth_24 M_faultKind_17 M_faultPlace_18 M_tape (58 : Int32) (fun (r_32 : Int32) (M_at_26 : Int32) (M_to_27 : Int32) (M_sort_28 : Int32) (M_worth_29 : Int32) (M_faultKind_30 : Int32) (M_faultPlace_31 : Int32) => ((¬ r_32 = 0 → (∃ j_97, p_M_readGiven_L113 M_clauses M_given M_size M_plain M_minus M_block M_left M_right M_pivot M_live M_tape M_worth k (fun (x2_71 : Int32) (x3_72 : Int32) (M_at_73 : Int32) (M_to_74 : Int32) (M_sort_75 : Int32) (M_worth_76 : Int32) (M_faultKind_77 : Int32) (M_faultPlace_78 : Int32) => (p_M_takes M_size M_at_73 M_to_74 M_sort_75 M_worth_76 M_faultKind_77 M_faultPlace_78 M_tape (59 : Int32) (fun (r_85 : Int32) (M_at_79 : Int32) (M_to_80 : Int32) (M_sort_81 : Int32) (M_worth_82 : Int32) (M_faultKind_83 : Int32) (M_faultPlace_84 : Int32) => ((r_85 = 0 → (k M_clauses M_given M_at_79 M_to_80 M_sort_81 M_worth_82 M_faultKind_83 M_faultPlace_84 M_plain M_minus M_block M_left M_right M_pivot M_live)) ∧ (¬ r_85 = 0 → (p_M_add M_clauses M_given M_plain M_minus M_block M_left M_right M_pivot M_live x2_71 x3_72 M_worth (0 : Int32) (0 : Int32) (0 : Int32) (fun (M_clauses_87 : Int32) (M_given_88 : Int32) (M_plain_89 : Nat → Int32) (M_minus_90 : Nat → Int32) (M_block_91 : Nat → Int32) (M_left_92 : Nat → Int32) (M_right_93 : Nat → Int32) (M_pivot_94 : Nat → Int32) (M_live_95 : Nat → Int32) => (k M_clauses_87 M_given_88 M_at_79 M_to_80 M_sort_81 M_worth_82 M_faultKind_83 M_faultPlace_84 M_plain_89 M_minus_90 M_block_91 M_left_92 M_right_93 M_pivot_94 M_live_95)))))))) j_97 (0 : Int32) (0 : Int32) M_at_26 M_to_27 M_sort_28 M_worth_29 M_faultKind_30 M_faultPlace_31)) ∧ (r_32 = 0 → (k M_clauses M_given M_at_26 M_to_27 M_sort_28 M_worth_29 M_faultKind_30 M_faultPlace_31 M_plain M_minus M_block M_left M_right M_pivot M_live)))))))) ∧ (r_19 = 0 → (k M_clauses M_given M_at M_to M_sort M_worth M_faultKind_17 M_faultPlace_18 M_plain M_minus M_block M_left M_right M_pivot M_live)))))
def p_M_readGiven_J81 (M_size : Int32) (M_tape : Nat → Int32) (k : Int32 → Int32 → Int32 → Int32 → Int32 → Int32 → Int32 → Int32 → (Nat → Int32) → (Nat → Int32) → (Nat → Int32) → (Nat → Int32) → (Nat → Int32) → (Nat → Int32) → (Nat → Int32) → Prop) (M_clauses : Int32) (M_given : Int32) (M_at : Int32) (M_to : Int32) (M_sort : Int32) (M_worth : Int32) (M_faultKind : Int32) (M_faultPlace : Int32) (M_plain : Nat → Int32) (M_minus : Nat → Int32) (M_block : Nat → Int32) (M_left : Nat → Int32) (M_right : Nat → Int32) (M_pivot : Nat → Int32) (M_live : Nat → Int32) : Prop :=
  (p_M_readGiven_J82 M_size M_tape k (0 : Int32) M_clauses M_given M_at M_to M_sort M_worth M_faultKind M_faultPlace M_plain M_minus M_block M_left M_right M_pivot M_live)
def p_M_readGiven_J52 (M_size : Int32) (M_tape : Nat → Int32) (k : Int32 → Int32 → Int32 → Int32 → Int32 → Int32 → Int32 → Int32 → (Nat → Int32) → (Nat → Int32) → (Nat → Int32) → (Nat → Int32) → (Nat → Int32) → (Nat → Int32) → (Nat → Int32) → Prop) (t0 : Int32) (M_clauses : Int32) (M_given : Int32) (M_at : Int32) (M_to : Int32) (M_sort : Int32) (M_worth : Int32) (M_faultKind : Int32) (M_faultPlace : Int32) (M_plain : Nat → Int32) (M_minus : Nat → Int32) (M_block : Nat → Int32) (M_left : Nat → Int32) (M_right : Nat → Int32) (M_pivot : Nat → Int32) (M_live : Nat → Int32) : Prop :=
  (p_M_need M_at M_faultKind M_faultPlace t0 (1 : Int32) (fun (r_14 : Int32) (M_faultKind_12 : Int32) (M_faultPlace_13 : Int32) => ((r_14 = 0 → (k M_clauses M_given M_at M_to M_sort M_worth M_faultKind_12 M_faultPlace_13 M_plain M_minus M_block M_left M_right M_pivot M_live)) ∧ (¬ r_14 = 0 → ((M_worth < (1 : Int32) → (p_M_readGiven_J81 M_size M_tape k M_clauses M_given M_at M_to M_sort M_worth M_faultKind_12 M_faultPlace_13 M_plain M_minus M_block M_left M_right M_pivot M_live)) ∧ (¬ M_worth < (1 : Int32) → (((8 : Int32) < M_worth → (p_M_readGiven_J81 M_size M_tape k M_clauses M_given M_at M_to M_sort M_worth M_faultKind_12 M_faultPlace_13 M_plain M_minus M_block M_left M_right M_pivot M_live)) ∧ (¬ (8 : Int32) < M_worth → (p_M_readGiven_J82 M_size M_tape k (1 : Int32) M_clauses M_given M_at M_to M_sort M_worth M_faultKind_12 M_faultPlace_13 M_plain M_minus M_block M_left M_right M_pivot M_live)))))))))
def p_M_readGiven_J25 (M_size : Int32) (M_tape : Nat → Int32) (k : Int32 → Int32 → Int32 → Int32 → Int32 → Int32 → Int32 → Int32 → (Nat → Int32) → (Nat → Int32) → (Nat → Int32) → (Nat → Int32) → (Nat → Int32) → (Nat → Int32) → (Nat → Int32) → Prop) (t0 : Int32) (M_clauses : Int32) (M_given : Int32) (M_at : Int32) (M_to : Int32) (M_sort : Int32) (M_worth : Int32) (M_faultKind : Int32) (M_faultPlace : Int32) (M_plain : Nat → Int32) (M_minus : Nat → Int32) (M_block : Nat → Int32) (M_left : Nat → Int32) (M_right : Nat → Int32) (M_pivot : Nat → Int32) (M_live : Nat → Int32) : Prop :=
  (p_M_need M_at M_faultKind M_faultPlace t0 (6 : Int32) (fun (r_4 : Int32) (M_faultKind_2 : Int32) (M_faultPlace_3 : Int32) => ((¬ r_4 = 0 → (p_M_cut M_size M_at M_to M_sort M_worth M_tape (fun (M_at_6 : Int32) (M_to_7 : Int32) (M_sort_8 : Int32) (M_worth_9 : Int32) => ((¬ M_sort_8 = (1 : Int32) → (p_M_readGiven_J52 M_size M_tape k (0 : Int32) M_clauses M_given M_at_6 M_to_7 M_sort_8 M_worth_9 M_faultKind_2 M_faultPlace_3 M_plain M_minus M_block M_left M_right M_pivot M_live)) ∧ (M_sort_8 = (1 : Int32) → (p_M_readGiven_J52 M_size M_tape k (1 : Int32) M_clauses M_given M_at_6 M_to_7 M_sort_8 M_worth_9 M_faultKind_2 M_faultPlace_3 M_plain M_minus M_block M_left M_right M_pivot M_live)))))) ∧ (r_4 = 0 → (k M_clauses M_given M_at M_to M_sort M_worth M_faultKind_2 M_faultPlace_3 M_plain M_minus M_block M_left M_right M_pivot M_live)))))
def p_M_readGiven_J24 (M_size : Int32) (M_tape : Nat → Int32) (k : Int32 → Int32 → Int32 → Int32 → Int32 → Int32 → Int32 → Int32 → (Nat → Int32) → (Nat → Int32) → (Nat → Int32) → (Nat → Int32) → (Nat → Int32) → (Nat → Int32) → (Nat → Int32) → Prop) (M_clauses : Int32) (M_given : Int32) (M_at : Int32) (M_to : Int32) (M_sort : Int32) (M_worth : Int32) (M_faultKind : Int32) (M_faultPlace : Int32) (M_plain : Nat → Int32) (M_minus : Nat → Int32) (M_block : Nat → Int32) (M_left : Nat → Int32) (M_right : Nat → Int32) (M_pivot : Nat → Int32) (M_live : Nat → Int32) : Prop :=
  (p_M_readGiven_J25 M_size M_tape k (0 : Int32) M_clauses M_given M_at M_to M_sort M_worth M_faultKind M_faultPlace M_plain M_minus M_block M_left M_right M_pivot M_live)
def p_M_readGiven (M_clauses : Int32) (M_given : Int32) (M_size : Int32) (M_at : Int32) (M_to : Int32) (M_sort : Int32) (M_worth : Int32) (M_faultKind : Int32) (M_faultPlace : Int32) (M_plain : Nat → Int32) (M_minus : Nat → Int32) (M_block : Nat → Int32) (M_left : Nat → Int32) (M_right : Nat → Int32) (M_pivot : Nat → Int32) (M_live : Nat → Int32) (M_tape : Nat → Int32) (k : Int32 → Int32 → Int32 → Int32 → Int32 → Int32 → Int32 → Int32 → (Nat → Int32) → (Nat → Int32) → (Nat → Int32) → (Nat → Int32) → (Nat → Int32) → (Nat → Int32) → (Nat → Int32) → Prop) : Prop :=
  (((60 : Int32) ≤ M_given → (p_M_readGiven_J24 M_size M_tape k M_clauses M_given M_at M_to M_sort M_worth M_faultKind M_faultPlace M_plain M_minus M_block M_left M_right M_pivot M_live)) ∧ (¬ (60 : Int32) ≤ M_given → (((200 : Int32) ≤ M_clauses → (p_M_readGiven_J24 M_size M_tape k M_clauses M_given M_at M_to M_sort M_worth M_faultKind M_faultPlace M_plain M_minus M_block M_left M_right M_pivot M_live)) ∧ (¬ (200 : Int32) ≤ M_clauses → (p_M_readGiven_J25 M_size M_tape k (1 : Int32) M_clauses M_given M_at M_to M_sort M_worth M_faultKind M_faultPlace M_plain M_minus M_block M_left M_right M_pivot M_live)))))
abbrev rm_M_readGiven : Room := { frames := 3, cells := 0, slots := 0, locals := 64 }
set_option maxHeartbeats 4000000 in
set_option maxRecDepth 100000 in
theorem b_M_readGiven_J232 {p : Program} {l : Launch} {e : Env} {s : State} {m : MethodId} {args : Array Value} {below : List Frame} {meth : Method} {c : Code} {D : va_G} {ca : Nat → ClassId} {tp : Nat} {A : Nat → Prop} {am : Nat → Nat} {M_end : Int32} {M_taped : Int32} {M_size : Int32} {M_isTold : Int32} {M_nodes : Int32} {M_needed : Nat → Int32} {M_label : Nat → Int32} {M_tape : Nat → Int32} {M_of : Nat → Int64} {M_kept : Nat → Int64} {M_had : Nat → Int32} {M_told : Nat → Int64} {M_first : Nat → Int64} {M_second : Nat → Int64} {M_node : Nat → Int64} {M_nodeVariable : Nat → Int32} {M_nodeLow : Nat → Int32} {M_nodeHigh : Nat → Int32} {M_wait : Nat → Int32}  {k : Int32 → Int32 → Int32 → Int32 → Int32 → Int32 → Int32 → Int32 → (Nat → Int32) → (Nat → Int32) → (Nat → Int32) → (Nat → Int32) → (Nat → Int32) → (Nat → Int32) → (Nat → Int32) → Prop} {k113 : Int32 → Int32 → Int32 → Int32 → Int32 → Int32 → Int32 → Int32 → Prop} (C0 : CX p s m args meth c b_M_readGiven 6 none R_M "readGiven" D ca tp A) :
    ∀ (x1 : Int32) (x2 : Int32) (x3 : Int32) (x4 : Int32) (x5 : Int32) (t0 : Int32) (M_clauses : Int32) (M_given : Int32) (M_at : Int32) (M_to : Int32) (M_sort : Int32) (M_worth : Int32) (M_faultKind : Int32) (M_faultPlace : Int32) (M_plain : Nat → Int32) (M_minus : Nat → Int32) (M_block : Nat → Int32) (M_left : Nat → Int32) (M_right : Nat → Int32) (M_pivot : Nat → Int32) (M_live : Nat → Int32) {H : Heap} {locs : List Loc} {ls : Array Slot}, p_M_readGiven_J232 M_size M_tape k k113 x1 x2 x3 x4 x5 t0 M_clauses M_given M_at M_to M_sort M_worth M_faultKind M_faultPlace M_plain M_minus M_block M_left M_right M_pivot M_live → WH D A s (WM am ca M_clauses M_given M_end M_taped M_size M_at M_to M_sort M_worth M_faultKind M_faultPlace M_isTold M_nodes M_plain M_minus M_block M_left M_right M_pivot M_live M_needed M_label M_tape M_of M_kept M_had M_told M_first M_second M_node M_nodeVariable M_nodeLow M_nodeHigh M_wait) H locs → lv_has ls 6 [(0, .ref (am 0)), (1, .int x1), (2, .int x2), (3, .int x3), (4, .int x4), (5, .int x5)] →
      (∀ (x2 : Int32) (x3 : Int32) (M_at : Int32) (M_to : Int32) (M_sort : Int32) (M_worth : Int32) (M_faultKind : Int32) (M_faultPlace : Int32) (H : Heap) (locs : List Loc) (ls : Array Slot), k113 x2 x3 M_at M_to M_sort M_worth M_faultKind M_faultPlace → WH D A s (WM am ca M_clauses M_given M_end M_taped M_size M_at M_to M_sort M_worth M_faultKind M_faultPlace M_isTold M_nodes M_plain M_minus M_block M_left M_right M_pivot M_live M_needed M_label M_tape M_of M_kept M_had M_told M_first M_second M_node M_nodeVariable M_nodeLow M_nodeHigh M_wait) H locs → lv_has ls 6 [(0, .ref (am 0)), (1, .int x1), (2, .int x2), (3, .int x3)] → W p l e rm_M_readGiven s m args below meth c H locs 0 0 (QV D A below args s (fun (u : Int32 × Int32 × Int32 × Int32 × Int32 × Int32 × Int32 × Int32 × (Nat → Int32) × (Nat → Int32) × (Nat → Int32) × (Nat → Int32) × (Nat → Int32) × (Nat → Int32) × (Nat → Int32)) => k u.1 u.2.1 u.2.2.1 u.2.2.2.1 u.2.2.2.2.1 u.2.2.2.2.2.1 u.2.2.2.2.2.2.1 u.2.2.2.2.2.2.2.1 u.2.2.2.2.2.2.2.2.1 u.2.2.2.2.2.2.2.2.2.1 u.2.2.2.2.2.2.2.2.2.2.1 u.2.2.2.2.2.2.2.2.2.2.2.1 u.2.2.2.2.2.2.2.2.2.2.2.2.1 u.2.2.2.2.2.2.2.2.2.2.2.2.2.1 u.2.2.2.2.2.2.2.2.2.2.2.2.2.2) (fun (u : Int32 × Int32 × Int32 × Int32 × Int32 × Int32 × Int32 × Int32 × (Nat → Int32) × (Nat → Int32) × (Nat → Int32) × (Nat → Int32) × (Nat → Int32) × (Nat → Int32) × (Nat → Int32)) => WM am ca u.1 u.2.1 M_end M_taped M_size u.2.2.1 u.2.2.2.1 u.2.2.2.2.1 u.2.2.2.2.2.1 u.2.2.2.2.2.2.1 u.2.2.2.2.2.2.2.1 M_isTold M_nodes u.2.2.2.2.2.2.2.2.1 u.2.2.2.2.2.2.2.2.2.1 u.2.2.2.2.2.2.2.2.2.2.1 u.2.2.2.2.2.2.2.2.2.2.2.1 u.2.2.2.2.2.2.2.2.2.2.2.2.1 u.2.2.2.2.2.2.2.2.2.2.2.2.2.1 u.2.2.2.2.2.2.2.2.2.2.2.2.2.2 M_needed M_label M_tape M_of M_kept M_had M_told M_first M_second M_node M_nodeVariable M_nodeLow M_nodeHigh M_wait) 0 0) (F0 m 113 ls [])) →
      W p l e rm_M_readGiven s m args below meth c H locs 0 0 (QV D A below args s (fun (u : Int32 × Int32 × Int32 × Int32 × Int32 × Int32 × Int32 × Int32 × (Nat → Int32) × (Nat → Int32) × (Nat → Int32) × (Nat → Int32) × (Nat → Int32) × (Nat → Int32) × (Nat → Int32)) => k u.1 u.2.1 u.2.2.1 u.2.2.2.1 u.2.2.2.2.1 u.2.2.2.2.2.1 u.2.2.2.2.2.2.1 u.2.2.2.2.2.2.2.1 u.2.2.2.2.2.2.2.2.1 u.2.2.2.2.2.2.2.2.2.1 u.2.2.2.2.2.2.2.2.2.2.1 u.2.2.2.2.2.2.2.2.2.2.2.1 u.2.2.2.2.2.2.2.2.2.2.2.2.1 u.2.2.2.2.2.2.2.2.2.2.2.2.2.1 u.2.2.2.2.2.2.2.2.2.2.2.2.2.2) (fun (u : Int32 × Int32 × Int32 × Int32 × Int32 × Int32 × Int32 × Int32 × (Nat → Int32) × (Nat → Int32) × (Nat → Int32) × (Nat → Int32) × (Nat → Int32) × (Nat → Int32) × (Nat → Int32)) => WM am ca u.1 u.2.1 M_end M_taped M_size u.2.2.1 u.2.2.2.1 u.2.2.2.2.1 u.2.2.2.2.2.1 u.2.2.2.2.2.2.1 u.2.2.2.2.2.2.2.1 M_isTold M_nodes u.2.2.2.2.2.2.2.2.1 u.2.2.2.2.2.2.2.2.2.1 u.2.2.2.2.2.2.2.2.2.2.1 u.2.2.2.2.2.2.2.2.2.2.2.1 u.2.2.2.2.2.2.2.2.2.2.2.2.1 u.2.2.2.2.2.2.2.2.2.2.2.2.2.1 u.2.2.2.2.2.2.2.2.2.2.2.2.2.2 M_needed M_label M_tape M_of M_kept M_had M_told M_first M_second M_node M_nodeVariable M_nodeLow M_nodeHigh M_wait) 0 0) (F0 m 232 ls [.int t0, .ref (am 0)]) := by
  have hx := C0.1
  have hb := C0.2.1
  intro x1 x2 x3 x4 x5 t0 M_clauses M_given M_at M_to M_sort M_worth M_faultKind M_faultPlace M_plain M_minus M_block M_left M_right M_pivot M_live H locs ls h hw hl h113
  unfold p_M_readGiven_J232 at h
  refine lv_iconst (v := 3) hx hb d_M_readGiven_232 (by decide) ?_
  refine x_callVi C0 hw hl (c_M_need h) g_M_need wm_851 ⟨wm_35, wm_853⟩ 0 rfl rfl rfl (As := [.int t0, .int (3 : Int32)]) (rest := []) rfl rfl (Nat.le_of_ble_eq_true rfl) ⟨rfl, rfl⟩ ⟨Nat.le_of_ble_eq_true rfl, Nat.le_of_ble_eq_true rfl⟩ ⟨Nat.le_of_ble_eq_true rfl, Nat.le_of_ble_eq_true rfl⟩ d_M_readGiven_233 (fun r_51 u H locs h hw => ?_)
  obtain ⟨M_faultKind_49, M_faultPlace_50⟩ := u
  refine lv_if_ne (tgt := 240) hx hb d_M_readGiven_236 (by decide) (fun c_52 => ?_) (fun c_52 => ?_)
  · have h := h.1 c_52
    refine lv_iload hx hb d_M_readGiven_240 (lv_at hl 4 rfl) ?_
    refine lv_if_eq (tgt := 253) hx hb d_M_readGiven_242 (by decide) (fun c_53 => ?_) (fun c_53 => ?_)
    · have h := h.1 c_53
      refine lv_iload_n hx hb d_M_readGiven_253 rfl (lv_at hl 2 rfl) ?_
      refine lv_iload hx hb d_M_readGiven_254 (lv_at hl 5 rfl) ?_
      refine lv_ior hx hb d_M_readGiven_256 ?_
      refine lv_istore_n (lv' := [(2, .int (x2 ||| x5)), (0, .ref (am 0)), (1, .int x1), (3, .int x3), (4, .int x4), (5, .int x5)]) hx hb d_M_readGiven_257 rfl hl (by decide) rfl (fun ls hl => ?_)
      refine lv_aload_n hx hb d_M_readGiven_258 rfl (lv_at hl 1 rfl) ?_
      refine x_callVv C0 hw hl (c_M_cut h) g_M_cut wm_840 ⟨wm_33, wm_842⟩ 0 rfl rfl rfl (As := []) (rest := []) rfl rfl (Nat.le_of_ble_eq_true rfl) ⟨rfl, rfl⟩ ⟨Nat.le_of_ble_eq_true rfl, Nat.le_of_ble_eq_true rfl⟩ ⟨Nat.le_of_ble_eq_true rfl, Nat.le_of_ble_eq_true rfl⟩ d_M_readGiven_259 (fun u H locs h hw => ?_)
      obtain ⟨M_at_54, M_to_55, M_sort_56, M_worth_57⟩ := u
      refine lv_goto (tgt := 113) hx hb d_M_readGiven_262 (by decide) ?_
      exact h113 _ _ _ _ _ _ _ _ _ _ _ h hw (lv_sub hl [1, 2, 0, 3] rfl)
    · have h := h.2 c_53
      refine lv_iload_n hx hb d_M_readGiven_245 rfl (lv_at hl 3 rfl) ?_
      refine lv_iload hx hb d_M_readGiven_246 (lv_at hl 5 rfl) ?_
      refine lv_ior hx hb d_M_readGiven_248 ?_
      refine lv_istore_n (lv' := [(3, .int (x3 ||| x5)), (0, .ref (am 0)), (1, .int x1), (2, .int x2), (4, .int x4), (5, .int x5)]) hx hb d_M_readGiven_249 rfl hl (by decide) rfl (fun ls hl => ?_)
      refine lv_goto (tgt := 258) hx hb d_M_readGiven_250 (by decide) ?_
      refine lv_aload_n hx hb d_M_readGiven_258 rfl (lv_at hl 1 rfl) ?_
      refine x_callVv C0 hw hl (c_M_cut h) g_M_cut wm_840 ⟨wm_33, wm_842⟩ 0 rfl rfl rfl (As := []) (rest := []) rfl rfl (Nat.le_of_ble_eq_true rfl) ⟨rfl, rfl⟩ ⟨Nat.le_of_ble_eq_true rfl, Nat.le_of_ble_eq_true rfl⟩ ⟨Nat.le_of_ble_eq_true rfl, Nat.le_of_ble_eq_true rfl⟩ d_M_readGiven_259 (fun u H locs h hw => ?_)
      obtain ⟨M_at_59, M_to_60, M_sort_61, M_worth_62⟩ := u
      refine lv_goto (tgt := 113) hx hb d_M_readGiven_262 (by decide) ?_
      exact h113 _ _ _ _ _ _ _ _ _ _ _ h hw (lv_sub hl [1, 2, 3, 0] rfl)
  · have h := h.2 c_52
    exact x_vret C0 hw (M_clauses, M_given, M_at, M_to, M_sort, M_worth, M_faultKind_49, M_faultPlace_50, M_plain, M_minus, M_block, M_left, M_right, M_pivot, M_live) h rfl d_M_readGiven_239
set_option maxHeartbeats 4000000 in
set_option maxRecDepth 100000 in
theorem b_M_readGiven_J199 {p : Program} {l : Launch} {e : Env} {s : State} {m : MethodId} {args : Array Value} {below : List Frame} {meth : Method} {c : Code} {D : va_G} {ca : Nat → ClassId} {tp : Nat} {A : Nat → Prop} {am : Nat → Nat} {M_end : Int32} {M_taped : Int32} {M_size : Int32} {M_isTold : Int32} {M_nodes : Int32} {M_needed : Nat → Int32} {M_label : Nat → Int32} {M_tape : Nat → Int32} {M_of : Nat → Int64} {M_kept : Nat → Int64} {M_had : Nat → Int32} {M_told : Nat → Int64} {M_first : Nat → Int64} {M_second : Nat → Int64} {M_node : Nat → Int64} {M_nodeVariable : Nat → Int32} {M_nodeLow : Nat → Int32} {M_nodeHigh : Nat → Int32} {M_wait : Nat → Int32}  {k : Int32 → Int32 → Int32 → Int32 → Int32 → Int32 → Int32 → Int32 → (Nat → Int32) → (Nat → Int32) → (Nat → Int32) → (Nat → Int32) → (Nat → Int32) → (Nat → Int32) → (Nat → Int32) → Prop} {k113 : Int32 → Int32 → Int32 → Int32 → Int32 → Int32 → Int32 → Int32 → Prop} (C0 : CX p s m args meth c b_M_readGiven 6 none R_M "readGiven" D ca tp A) :
    ∀ (x1 : Int32) (x2 : Int32) (x3 : Int32) (x4 : Int32) (t0 : Int32) (M_clauses : Int32) (M_given : Int32) (M_at : Int32) (M_to : Int32) (M_sort : Int32) (M_worth : Int32) (M_faultKind : Int32) (M_faultPlace : Int32) (M_plain : Nat → Int32) (M_minus : Nat → Int32) (M_block : Nat → Int32) (M_left : Nat → Int32) (M_right : Nat → Int32) (M_pivot : Nat → Int32) (M_live : Nat → Int32) {H : Heap} {locs : List Loc} {ls : Array Slot}, p_M_readGiven_J199 M_size M_tape k k113 x1 x2 x3 x4 t0 M_clauses M_given M_at M_to M_sort M_worth M_faultKind M_faultPlace M_plain M_minus M_block M_left M_right M_pivot M_live → WH D A s (WM am ca M_clauses M_given M_end M_taped M_size M_at M_to M_sort M_worth M_faultKind M_faultPlace M_isTold M_nodes M_plain M_minus M_block M_left M_right M_pivot M_live M_needed M_label M_tape M_of M_kept M_had M_told M_first M_second M_node M_nodeVariable M_nodeLow M_nodeHigh M_wait) H locs → lv_has ls 6 [(0, .ref (am 0)), (1, .int x1), (2, .int x2), (3, .int x3), (4, .int x4)] →
      (∀ (x2 : Int32) (x3 : Int32) (M_at : Int32) (M_to : Int32) (M_sort : Int32) (M_worth : Int32) (M_faultKind : Int32) (M_faultPlace : Int32) (H : Heap) (locs : List Loc) (ls : Array Slot), k113 x2 x3 M_at M_to M_sort M_worth M_faultKind M_faultPlace → WH D A s (WM am ca M_clauses M_given M_end M_taped M_size M_at M_to M_sort M_worth M_faultKind M_faultPlace M_isTold M_nodes M_plain M_minus M_block M_left M_right M_pivot M_live M_needed M_label M_tape M_of M_kept M_had M_told M_first M_second M_node M_nodeVariable M_nodeLow M_nodeHigh M_wait) H locs → lv_has ls 6 [(0, .ref (am 0)), (1, .int x1), (2, .int x2), (3, .int x3)] → W p l e rm_M_readGiven s m args below meth c H locs 0 0 (QV D A below args s (fun (u : Int32 × Int32 × Int32 × Int32 × Int32 × Int32 × Int32 × Int32 × (Nat → Int32) × (Nat → Int32) × (Nat → Int32) × (Nat → Int32) × (Nat → Int32) × (Nat → Int32) × (Nat → Int32)) => k u.1 u.2.1 u.2.2.1 u.2.2.2.1 u.2.2.2.2.1 u.2.2.2.2.2.1 u.2.2.2.2.2.2.1 u.2.2.2.2.2.2.2.1 u.2.2.2.2.2.2.2.2.1 u.2.2.2.2.2.2.2.2.2.1 u.2.2.2.2.2.2.2.2.2.2.1 u.2.2.2.2.2.2.2.2.2.2.2.1 u.2.2.2.2.2.2.2.2.2.2.2.2.1 u.2.2.2.2.2.2.2.2.2.2.2.2.2.1 u.2.2.2.2.2.2.2.2.2.2.2.2.2.2) (fun (u : Int32 × Int32 × Int32 × Int32 × Int32 × Int32 × Int32 × Int32 × (Nat → Int32) × (Nat → Int32) × (Nat → Int32) × (Nat → Int32) × (Nat → Int32) × (Nat → Int32) × (Nat → Int32)) => WM am ca u.1 u.2.1 M_end M_taped M_size u.2.2.1 u.2.2.2.1 u.2.2.2.2.1 u.2.2.2.2.2.1 u.2.2.2.2.2.2.1 u.2.2.2.2.2.2.2.1 M_isTold M_nodes u.2.2.2.2.2.2.2.2.1 u.2.2.2.2.2.2.2.2.2.1 u.2.2.2.2.2.2.2.2.2.2.1 u.2.2.2.2.2.2.2.2.2.2.2.1 u.2.2.2.2.2.2.2.2.2.2.2.2.1 u.2.2.2.2.2.2.2.2.2.2.2.2.2.1 u.2.2.2.2.2.2.2.2.2.2.2.2.2.2 M_needed M_label M_tape M_of M_kept M_had M_told M_first M_second M_node M_nodeVariable M_nodeLow M_nodeHigh M_wait) 0 0) (F0 m 113 ls [])) →
      W p l e rm_M_readGiven s m args below meth c H locs 0 0 (QV D A below args s (fun (u : Int32 × Int32 × Int32 × Int32 × Int32 × Int32 × Int32 × Int32 × (Nat → Int32) × (Nat → Int32) × (Nat → Int32) × (Nat → Int32) × (Nat → Int32) × (Nat → Int32) × (Nat → Int32)) => k u.1 u.2.1 u.2.2.1 u.2.2.2.1 u.2.2.2.2.1 u.2.2.2.2.2.1 u.2.2.2.2.2.2.1 u.2.2.2.2.2.2.2.1 u.2.2.2.2.2.2.2.2.1 u.2.2.2.2.2.2.2.2.2.1 u.2.2.2.2.2.2.2.2.2.2.1 u.2.2.2.2.2.2.2.2.2.2.2.1 u.2.2.2.2.2.2.2.2.2.2.2.2.1 u.2.2.2.2.2.2.2.2.2.2.2.2.2.1 u.2.2.2.2.2.2.2.2.2.2.2.2.2.2) (fun (u : Int32 × Int32 × Int32 × Int32 × Int32 × Int32 × Int32 × Int32 × (Nat → Int32) × (Nat → Int32) × (Nat → Int32) × (Nat → Int32) × (Nat → Int32) × (Nat → Int32) × (Nat → Int32)) => WM am ca u.1 u.2.1 M_end M_taped M_size u.2.2.1 u.2.2.2.1 u.2.2.2.2.1 u.2.2.2.2.2.1 u.2.2.2.2.2.2.1 u.2.2.2.2.2.2.2.1 M_isTold M_nodes u.2.2.2.2.2.2.2.2.1 u.2.2.2.2.2.2.2.2.2.1 u.2.2.2.2.2.2.2.2.2.2.1 u.2.2.2.2.2.2.2.2.2.2.2.1 u.2.2.2.2.2.2.2.2.2.2.2.2.1 u.2.2.2.2.2.2.2.2.2.2.2.2.2.1 u.2.2.2.2.2.2.2.2.2.2.2.2.2.2 M_needed M_label M_tape M_of M_kept M_had M_told M_first M_second M_node M_nodeVariable M_nodeLow M_nodeHigh M_wait) 0 0) (F0 m 199 ls [.int t0, .ref (am 0)]) := by
  have hx := C0.1
  have hb := C0.2.1
  intro x1 x2 x3 x4 t0 M_clauses M_given M_at M_to M_sort M_worth M_faultKind M_faultPlace M_plain M_minus M_block M_left M_right M_pivot M_live H locs ls h hw hl h113
  unfold p_M_readGiven_J199 at h
  refine lv_iconst (v := 2) hx hb d_M_readGiven_199 (by decide) ?_
  refine x_callVi C0 hw hl (c_M_need h) g_M_need wm_851 ⟨wm_35, wm_853⟩ 0 rfl rfl rfl (As := [.int t0, .int (2 : Int32)]) (rest := []) rfl rfl (Nat.le_of_ble_eq_true rfl) ⟨rfl, rfl⟩ ⟨Nat.le_of_ble_eq_true rfl, Nat.le_of_ble_eq_true rfl⟩ ⟨Nat.le_of_ble_eq_true rfl, Nat.le_of_ble_eq_true rfl⟩ d_M_readGiven_200 (fun r_45 u H locs h hw => ?_)
  obtain ⟨M_faultKind_43, M_faultPlace_44⟩ := u
  refine lv_if_ne (tgt := 207) hx hb d_M_readGiven_203 (by decide) (fun c_46 => ?_) (fun c_46 => ?_)
  · have h := h.1 c_46
    refine lv_iconst (v := 1) hx hb d_M_readGiven_207 (by decide) ?_
    refine lv_aload_n hx hb d_M_readGiven_208 rfl (lv_at hl 0 rfl) ?_
    refine x_get C0 hw 0 rfl rfl i_M 18 (by decide) wm_743 rfl rfl d_M_readGiven_209 ?_
    refine lv_iconst (v := 1) hx hb d_M_readGiven_212 (by decide) ?_
    refine lv_isub hx hb d_M_readGiven_213 ?_
    refine lv_ishl hx hb d_M_readGiven_214 ?_
    refine lv_topi (fun v5_47 e_v5_47 => ?_)
    have h := h v5_47 e_v5_47
    refine lv_istore (lv' := [(5, .int v5_47), (0, .ref (am 0)), (1, .int x1), (2, .int x2), (3, .int x3), (4, .int x4)]) hx hb d_M_readGiven_215 hl (by decide) rfl (fun ls hl => ?_)
    refine lv_aload_n hx hb d_M_readGiven_217 rfl (lv_at hl 1 rfl) ?_
    refine lv_iload_n hx hb d_M_readGiven_218 rfl (lv_at hl 3 rfl) ?_
    refine lv_iload_n hx hb d_M_readGiven_219 rfl (lv_at hl 4 rfl) ?_
    refine lv_ior hx hb d_M_readGiven_220 ?_
    refine lv_iload hx hb d_M_readGiven_221 (lv_at hl 0 rfl) ?_
    refine lv_iand hx hb d_M_readGiven_223 ?_
    refine lv_if_ne (tgt := 231) hx hb d_M_readGiven_224 (by decide) (fun c_48 => ?_) (fun c_48 => ?_)
    · have h := h.1 c_48
      refine lv_iconst (v := 0) hx hb d_M_readGiven_231 (by decide) ?_
      refine b_M_readGiven_J232 C0 _ _ _ _ _ _ _ _ _ _ _ _ _ _ _ _ _ _ _ _ _ h hw (lv_sub hl [1, 2, 3, 4, 5, 0] rfl) h113
    · have h := h.2 c_48
      refine lv_iconst (v := 1) hx hb d_M_readGiven_227 (by decide) ?_
      refine lv_goto (tgt := 232) hx hb d_M_readGiven_228 (by decide) ?_
      refine b_M_readGiven_J232 C0 _ _ _ _ _ _ _ _ _ _ _ _ _ _ _ _ _ _ _ _ _ h hw (lv_sub hl [1, 2, 3, 4, 5, 0] rfl) h113
  · have h := h.2 c_46
    exact x_vret C0 hw (M_clauses, M_given, M_at, M_to, M_sort, M_worth, M_faultKind_43, M_faultPlace_44, M_plain, M_minus, M_block, M_left, M_right, M_pivot, M_live) h rfl d_M_readGiven_206
set_option maxHeartbeats 4000000 in
set_option maxRecDepth 100000 in
theorem b_M_readGiven_J198 {p : Program} {l : Launch} {e : Env} {s : State} {m : MethodId} {args : Array Value} {below : List Frame} {meth : Method} {c : Code} {D : va_G} {ca : Nat → ClassId} {tp : Nat} {A : Nat → Prop} {am : Nat → Nat} {M_end : Int32} {M_taped : Int32} {M_size : Int32} {M_isTold : Int32} {M_nodes : Int32} {M_needed : Nat → Int32} {M_label : Nat → Int32} {M_tape : Nat → Int32} {M_of : Nat → Int64} {M_kept : Nat → Int64} {M_had : Nat → Int32} {M_told : Nat → Int64} {M_first : Nat → Int64} {M_second : Nat → Int64} {M_node : Nat → Int64} {M_nodeVariable : Nat → Int32} {M_nodeLow : Nat → Int32} {M_nodeHigh : Nat → Int32} {M_wait : Nat → Int32}  {k : Int32 → Int32 → Int32 → Int32 → Int32 → Int32 → Int32 → Int32 → (Nat → Int32) → (Nat → Int32) → (Nat → Int32) → (Nat → Int32) → (Nat → Int32) → (Nat → Int32) → (Nat → Int32) → Prop} {k113 : Int32 → Int32 → Int32 → Int32 → Int32 → Int32 → Int32 → Int32 → Prop} (C0 : CX p s m args meth c b_M_readGiven 6 none R_M "readGiven" D ca tp A) :
    ∀ (x1 : Int32) (x2 : Int32) (x3 : Int32) (x4 : Int32) (M_clauses : Int32) (M_given : Int32) (M_at : Int32) (M_to : Int32) (M_sort : Int32) (M_worth : Int32) (M_faultKind : Int32) (M_faultPlace : Int32) (M_plain : Nat → Int32) (M_minus : Nat → Int32) (M_block : Nat → Int32) (M_left : Nat → Int32) (M_right : Nat → Int32) (M_pivot : Nat → Int32) (M_live : Nat → Int32) {H : Heap} {locs : List Loc} {ls : Array Slot}, p_M_readGiven_J198 M_size M_tape k k113 x1 x2 x3 x4 M_clauses M_given M_at M_to M_sort M_worth M_faultKind M_faultPlace M_plain M_minus M_block M_left M_right M_pivot M_live → WH D A s (WM am ca M_clauses M_given M_end M_taped M_size M_at M_to M_sort M_worth M_faultKind M_faultPlace M_isTold M_nodes M_plain M_minus M_block M_left M_right M_pivot M_live M_needed M_label M_tape M_of M_kept M_had M_told M_first M_second M_node M_nodeVariable M_nodeLow M_nodeHigh M_wait) H locs → lv_has ls 6 [(0, .ref (am 0)), (1, .int x1), (2, .int x2), (3, .int x3), (4, .int x4)] →
      (∀ (x2 : Int32) (x3 : Int32) (M_at : Int32) (M_to : Int32) (M_sort : Int32) (M_worth : Int32) (M_faultKind : Int32) (M_faultPlace : Int32) (H : Heap) (locs : List Loc) (ls : Array Slot), k113 x2 x3 M_at M_to M_sort M_worth M_faultKind M_faultPlace → WH D A s (WM am ca M_clauses M_given M_end M_taped M_size M_at M_to M_sort M_worth M_faultKind M_faultPlace M_isTold M_nodes M_plain M_minus M_block M_left M_right M_pivot M_live M_needed M_label M_tape M_of M_kept M_had M_told M_first M_second M_node M_nodeVariable M_nodeLow M_nodeHigh M_wait) H locs → lv_has ls 6 [(0, .ref (am 0)), (1, .int x1), (2, .int x2), (3, .int x3)] → W p l e rm_M_readGiven s m args below meth c H locs 0 0 (QV D A below args s (fun (u : Int32 × Int32 × Int32 × Int32 × Int32 × Int32 × Int32 × Int32 × (Nat → Int32) × (Nat → Int32) × (Nat → Int32) × (Nat → Int32) × (Nat → Int32) × (Nat → Int32) × (Nat → Int32)) => k u.1 u.2.1 u.2.2.1 u.2.2.2.1 u.2.2.2.2.1 u.2.2.2.2.2.1 u.2.2.2.2.2.2.1 u.2.2.2.2.2.2.2.1 u.2.2.2.2.2.2.2.2.1 u.2.2.2.2.2.2.2.2.2.1 u.2.2.2.2.2.2.2.2.2.2.1 u.2.2.2.2.2.2.2.2.2.2.2.1 u.2.2.2.2.2.2.2.2.2.2.2.2.1 u.2.2.2.2.2.2.2.2.2.2.2.2.2.1 u.2.2.2.2.2.2.2.2.2.2.2.2.2.2) (fun (u : Int32 × Int32 × Int32 × Int32 × Int32 × Int32 × Int32 × Int32 × (Nat → Int32) × (Nat → Int32) × (Nat → Int32) × (Nat → Int32) × (Nat → Int32) × (Nat → Int32) × (Nat → Int32)) => WM am ca u.1 u.2.1 M_end M_taped M_size u.2.2.1 u.2.2.2.1 u.2.2.2.2.1 u.2.2.2.2.2.1 u.2.2.2.2.2.2.1 u.2.2.2.2.2.2.2.1 M_isTold M_nodes u.2.2.2.2.2.2.2.2.1 u.2.2.2.2.2.2.2.2.2.1 u.2.2.2.2.2.2.2.2.2.2.1 u.2.2.2.2.2.2.2.2.2.2.2.1 u.2.2.2.2.2.2.2.2.2.2.2.2.1 u.2.2.2.2.2.2.2.2.2.2.2.2.2.1 u.2.2.2.2.2.2.2.2.2.2.2.2.2.2 M_needed M_label M_tape M_of M_kept M_had M_told M_first M_second M_node M_nodeVariable M_nodeLow M_nodeHigh M_wait) 0 0) (F0 m 113 ls [])) →
      W p l e rm_M_readGiven s m args below meth c H locs 0 0 (QV D A below args s (fun (u : Int32 × Int32 × Int32 × Int32 × Int32 × Int32 × Int32 × Int32 × (Nat → Int32) × (Nat → Int32) × (Nat → Int32) × (Nat → Int32) × (Nat → Int32) × (Nat → Int32) × (Nat → Int32)) => k u.1 u.2.1 u.2.2.1 u.2.2.2.1 u.2.2.2.2.1 u.2.2.2.2.2.1 u.2.2.2.2.2.2.1 u.2.2.2.2.2.2.2.1 u.2.2.2.2.2.2.2.2.1 u.2.2.2.2.2.2.2.2.2.1 u.2.2.2.2.2.2.2.2.2.2.1 u.2.2.2.2.2.2.2.2.2.2.2.1 u.2.2.2.2.2.2.2.2.2.2.2.2.1 u.2.2.2.2.2.2.2.2.2.2.2.2.2.1 u.2.2.2.2.2.2.2.2.2.2.2.2.2.2) (fun (u : Int32 × Int32 × Int32 × Int32 × Int32 × Int32 × Int32 × Int32 × (Nat → Int32) × (Nat → Int32) × (Nat → Int32) × (Nat → Int32) × (Nat → Int32) × (Nat → Int32) × (Nat → Int32)) => WM am ca u.1 u.2.1 M_end M_taped M_size u.2.2.1 u.2.2.2.1 u.2.2.2.2.1 u.2.2.2.2.2.1 u.2.2.2.2.2.2.1 u.2.2.2.2.2.2.2.1 M_isTold M_nodes u.2.2.2.2.2.2.2.2.1 u.2.2.2.2.2.2.2.2.2.1 u.2.2.2.2.2.2.2.2.2.2.1 u.2.2.2.2.2.2.2.2.2.2.2.1 u.2.2.2.2.2.2.2.2.2.2.2.2.1 u.2.2.2.2.2.2.2.2.2.2.2.2.2.1 u.2.2.2.2.2.2.2.2.2.2.2.2.2.2 M_needed M_label M_tape M_of M_kept M_had M_told M_first M_second M_node M_nodeVariable M_nodeLow M_nodeHigh M_wait) 0 0) (F0 m 198 ls [.ref (am 0)]) := by
  have hx := C0.1
  have hb := C0.2.1
  intro x1 x2 x3 x4 M_clauses M_given M_at M_to M_sort M_worth M_faultKind M_faultPlace M_plain M_minus M_block M_left M_right M_pivot M_live H locs ls h hw hl h113
  unfold p_M_readGiven_J198 at h
  refine lv_iconst (v := 0) hx hb d_M_readGiven_198 (by decide) ?_
  refine b_M_readGiven_J199 C0 _ _ _ _ _ _ _ _ _ _ _ _ _ _ _ _ _ _ _ _ h hw (lv_sub hl [0, 1, 2, 3, 4] rfl) h113
set_option maxHeartbeats 4000000 in
set_option maxRecDepth 100000 in
theorem b_M_readGiven_J169 {p : Program} {l : Launch} {e : Env} {s : State} {m : MethodId} {args : Array Value} {below : List Frame} {meth : Method} {c : Code} {D : va_G} {ca : Nat → ClassId} {tp : Nat} {A : Nat → Prop} {am : Nat → Nat} {M_end : Int32} {M_taped : Int32} {M_size : Int32} {M_isTold : Int32} {M_nodes : Int32} {M_needed : Nat → Int32} {M_label : Nat → Int32} {M_tape : Nat → Int32} {M_of : Nat → Int64} {M_kept : Nat → Int64} {M_had : Nat → Int32} {M_told : Nat → Int64} {M_first : Nat → Int64} {M_second : Nat → Int64} {M_node : Nat → Int64} {M_nodeVariable : Nat → Int32} {M_nodeLow : Nat → Int32} {M_nodeHigh : Nat → Int32} {M_wait : Nat → Int32}  {k : Int32 → Int32 → Int32 → Int32 → Int32 → Int32 → Int32 → Int32 → (Nat → Int32) → (Nat → Int32) → (Nat → Int32) → (Nat → Int32) → (Nat → Int32) → (Nat → Int32) → (Nat → Int32) → Prop} {k113 : Int32 → Int32 → Int32 → Int32 → Int32 → Int32 → Int32 → Int32 → Prop} (C0 : CX p s m args meth c b_M_readGiven 6 none R_M "readGiven" D ca tp A) :
    ∀ (x1 : Int32) (x2 : Int32) (x3 : Int32) (x4 : Int32) (t0 : Int32) (M_clauses : Int32) (M_given : Int32) (M_at : Int32) (M_to : Int32) (M_sort : Int32) (M_worth : Int32) (M_faultKind : Int32) (M_faultPlace : Int32) (M_plain : Nat → Int32) (M_minus : Nat → Int32) (M_block : Nat → Int32) (M_left : Nat → Int32) (M_right : Nat → Int32) (M_pivot : Nat → Int32) (M_live : Nat → Int32) {H : Heap} {locs : List Loc} {ls : Array Slot}, p_M_readGiven_J169 M_size M_tape k k113 x1 x2 x3 x4 t0 M_clauses M_given M_at M_to M_sort M_worth M_faultKind M_faultPlace M_plain M_minus M_block M_left M_right M_pivot M_live → WH D A s (WM am ca M_clauses M_given M_end M_taped M_size M_at M_to M_sort M_worth M_faultKind M_faultPlace M_isTold M_nodes M_plain M_minus M_block M_left M_right M_pivot M_live M_needed M_label M_tape M_of M_kept M_had M_told M_first M_second M_node M_nodeVariable M_nodeLow M_nodeHigh M_wait) H locs → lv_has ls 6 [(0, .ref (am 0)), (1, .int x1), (2, .int x2), (3, .int x3), (4, .int x4)] →
      (∀ (x2 : Int32) (x3 : Int32) (M_at : Int32) (M_to : Int32) (M_sort : Int32) (M_worth : Int32) (M_faultKind : Int32) (M_faultPlace : Int32) (H : Heap) (locs : List Loc) (ls : Array Slot), k113 x2 x3 M_at M_to M_sort M_worth M_faultKind M_faultPlace → WH D A s (WM am ca M_clauses M_given M_end M_taped M_size M_at M_to M_sort M_worth M_faultKind M_faultPlace M_isTold M_nodes M_plain M_minus M_block M_left M_right M_pivot M_live M_needed M_label M_tape M_of M_kept M_had M_told M_first M_second M_node M_nodeVariable M_nodeLow M_nodeHigh M_wait) H locs → lv_has ls 6 [(0, .ref (am 0)), (1, .int x1), (2, .int x2), (3, .int x3)] → W p l e rm_M_readGiven s m args below meth c H locs 0 0 (QV D A below args s (fun (u : Int32 × Int32 × Int32 × Int32 × Int32 × Int32 × Int32 × Int32 × (Nat → Int32) × (Nat → Int32) × (Nat → Int32) × (Nat → Int32) × (Nat → Int32) × (Nat → Int32) × (Nat → Int32)) => k u.1 u.2.1 u.2.2.1 u.2.2.2.1 u.2.2.2.2.1 u.2.2.2.2.2.1 u.2.2.2.2.2.2.1 u.2.2.2.2.2.2.2.1 u.2.2.2.2.2.2.2.2.1 u.2.2.2.2.2.2.2.2.2.1 u.2.2.2.2.2.2.2.2.2.2.1 u.2.2.2.2.2.2.2.2.2.2.2.1 u.2.2.2.2.2.2.2.2.2.2.2.2.1 u.2.2.2.2.2.2.2.2.2.2.2.2.2.1 u.2.2.2.2.2.2.2.2.2.2.2.2.2.2) (fun (u : Int32 × Int32 × Int32 × Int32 × Int32 × Int32 × Int32 × Int32 × (Nat → Int32) × (Nat → Int32) × (Nat → Int32) × (Nat → Int32) × (Nat → Int32) × (Nat → Int32) × (Nat → Int32)) => WM am ca u.1 u.2.1 M_end M_taped M_size u.2.2.1 u.2.2.2.1 u.2.2.2.2.1 u.2.2.2.2.2.1 u.2.2.2.2.2.2.1 u.2.2.2.2.2.2.2.1 M_isTold M_nodes u.2.2.2.2.2.2.2.2.1 u.2.2.2.2.2.2.2.2.2.1 u.2.2.2.2.2.2.2.2.2.2.1 u.2.2.2.2.2.2.2.2.2.2.2.1 u.2.2.2.2.2.2.2.2.2.2.2.2.1 u.2.2.2.2.2.2.2.2.2.2.2.2.2.1 u.2.2.2.2.2.2.2.2.2.2.2.2.2.2 M_needed M_label M_tape M_of M_kept M_had M_told M_first M_second M_node M_nodeVariable M_nodeLow M_nodeHigh M_wait) 0 0) (F0 m 113 ls [])) →
      W p l e rm_M_readGiven s m args below meth c H locs 0 0 (QV D A below args s (fun (u : Int32 × Int32 × Int32 × Int32 × Int32 × Int32 × Int32 × Int32 × (Nat → Int32) × (Nat → Int32) × (Nat → Int32) × (Nat → Int32) × (Nat → Int32) × (Nat → Int32) × (Nat → Int32)) => k u.1 u.2.1 u.2.2.1 u.2.2.2.1 u.2.2.2.2.1 u.2.2.2.2.2.1 u.2.2.2.2.2.2.1 u.2.2.2.2.2.2.2.1 u.2.2.2.2.2.2.2.2.1 u.2.2.2.2.2.2.2.2.2.1 u.2.2.2.2.2.2.2.2.2.2.1 u.2.2.2.2.2.2.2.2.2.2.2.1 u.2.2.2.2.2.2.2.2.2.2.2.2.1 u.2.2.2.2.2.2.2.2.2.2.2.2.2.1 u.2.2.2.2.2.2.2.2.2.2.2.2.2.2) (fun (u : Int32 × Int32 × Int32 × Int32 × Int32 × Int32 × Int32 × Int32 × (Nat → Int32) × (Nat → Int32) × (Nat → Int32) × (Nat → Int32) × (Nat → Int32) × (Nat → Int32) × (Nat → Int32)) => WM am ca u.1 u.2.1 M_end M_taped M_size u.2.2.1 u.2.2.2.1 u.2.2.2.2.1 u.2.2.2.2.2.1 u.2.2.2.2.2.2.1 u.2.2.2.2.2.2.2.1 M_isTold M_nodes u.2.2.2.2.2.2.2.2.1 u.2.2.2.2.2.2.2.2.2.1 u.2.2.2.2.2.2.2.2.2.2.1 u.2.2.2.2.2.2.2.2.2.2.2.1 u.2.2.2.2.2.2.2.2.2.2.2.2.1 u.2.2.2.2.2.2.2.2.2.2.2.2.2.1 u.2.2.2.2.2.2.2.2.2.2.2.2.2.2 M_needed M_label M_tape M_of M_kept M_had M_told M_first M_second M_node M_nodeVariable M_nodeLow M_nodeHigh M_wait) 0 0) (F0 m 169 ls [.int t0, .ref (am 0)]) := by
  have hx := C0.1
  have hb := C0.2.1
  intro x1 x2 x3 x4 t0 M_clauses M_given M_at M_to M_sort M_worth M_faultKind M_faultPlace M_plain M_minus M_block M_left M_right M_pivot M_live H locs ls h hw hl h113
  unfold p_M_readGiven_J169 at h
  refine lv_iconst (v := 1) hx hb d_M_readGiven_169 (by decide) ?_
  refine x_callVi C0 hw hl (c_M_need h) g_M_need wm_851 ⟨wm_35, wm_853⟩ 0 rfl rfl rfl (As := [.int t0, .int (1 : Int32)]) (rest := []) rfl rfl (Nat.le_of_ble_eq_true rfl) ⟨rfl, rfl⟩ ⟨Nat.le_of_ble_eq_true rfl, Nat.le_of_ble_eq_true rfl⟩ ⟨Nat.le_of_ble_eq_true rfl, Nat.le_of_ble_eq_true rfl⟩ d_M_readGiven_170 (fun r_40 u H locs h hw => ?_)
  obtain ⟨M_faultKind_38, M_faultPlace_39⟩ := u
  refine lv_if_eq (tgt := 206) hx hb d_M_readGiven_173 (by decide) (fun c_41 => ?_) (fun c_41 => ?_)
  · have h := h.1 c_41
    exact x_vret C0 hw (M_clauses, M_given, M_at, M_to, M_sort, M_worth, M_faultKind_38, M_faultPlace_39, M_plain, M_minus, M_block, M_left, M_right, M_pivot, M_live) h rfl d_M_readGiven_206
  · have h := h.2 c_41
    refine lv_aload_n hx hb d_M_readGiven_176 rfl (lv_at hl 0 rfl) ?_
    refine lv_aload_n hx hb d_M_readGiven_177 rfl (lv_at hl 0 rfl) ?_
    refine x_get C0 hw 0 rfl rfl i_M 18 (by decide) wm_743 rfl rfl d_M_readGiven_178 ?_
    refine lv_iconst (v := 1) hx hb d_M_readGiven_181 (by decide) ?_
    refine lv_icmp_lt (tgt := 198) hx hb d_M_readGiven_182 (by decide) (fun c_42 => ?_) (fun c_42 => ?_)
    · have h := h.1 c_42
      refine b_M_readGiven_J198 C0 _ _ _ _ _ _ _ _ _ _ _ _ _ _ _ _ _ _ _ h hw (lv_sub hl [0, 1, 2, 3, 4] rfl) h113
    · have h := h.2 c_42
      refine lv_aload_n hx hb d_M_readGiven_185 rfl (lv_at hl 0 rfl) ?_
      refine x_get C0 hw 0 rfl rfl i_M 18 (by decide) wm_743 rfl rfl d_M_readGiven_186 ?_
      refine lv_bipush (v := 10) hx hb d_M_readGiven_189 (by decide) ?_
      refine lv_icmp_gt (tgt := 198) hx hb d_M_readGiven_191 (by decide) (fun c_64 => ?_) (fun c_64 => ?_)
      · have h := h.1 c_64
        refine b_M_readGiven_J198 C0 _ _ _ _ _ _ _ _ _ _ _ _ _ _ _ _ _ _ _ h hw (lv_sub hl [0, 1, 2, 3, 4] rfl) h113
      · have h := h.2 c_64
        refine lv_iconst (v := 1) hx hb d_M_readGiven_194 (by decide) ?_
        refine lv_goto (tgt := 199) hx hb d_M_readGiven_195 (by decide) ?_
        refine b_M_readGiven_J199 C0 _ _ _ _ _ _ _ _ _ _ _ _ _ _ _ _ _ _ _ _ h hw (lv_sub hl [0, 1, 2, 3, 4] rfl) h113
set_option maxHeartbeats 4000000 in
set_option maxRecDepth 100000 in
theorem b_M_readGiven_J155 {p : Program} {l : Launch} {e : Env} {s : State} {m : MethodId} {args : Array Value} {below : List Frame} {meth : Method} {c : Code} {D : va_G} {ca : Nat → ClassId} {tp : Nat} {A : Nat → Prop} {am : Nat → Nat} {M_end : Int32} {M_taped : Int32} {M_size : Int32} {M_isTold : Int32} {M_nodes : Int32} {M_needed : Nat → Int32} {M_label : Nat → Int32} {M_tape : Nat → Int32} {M_of : Nat → Int64} {M_kept : Nat → Int64} {M_had : Nat → Int32} {M_told : Nat → Int64} {M_first : Nat → Int64} {M_second : Nat → Int64} {M_node : Nat → Int64} {M_nodeVariable : Nat → Int32} {M_nodeLow : Nat → Int32} {M_nodeHigh : Nat → Int32} {M_wait : Nat → Int32}  {k : Int32 → Int32 → Int32 → Int32 → Int32 → Int32 → Int32 → Int32 → (Nat → Int32) → (Nat → Int32) → (Nat → Int32) → (Nat → Int32) → (Nat → Int32) → (Nat → Int32) → (Nat → Int32) → Prop} {k113 : Int32 → Int32 → Int32 → Int32 → Int32 → Int32 → Int32 → Int32 → Prop} (C0 : CX p s m args meth c b_M_readGiven 6 none R_M "readGiven" D ca tp A) :
    ∀ (x1 : Int32) (x2 : Int32) (x3 : Int32) (x4 : Int32) (M_clauses : Int32) (M_given : Int32) (M_at : Int32) (M_to : Int32) (M_sort : Int32) (M_worth : Int32) (M_faultKind : Int32) (M_faultPlace : Int32) (M_plain : Nat → Int32) (M_minus : Nat → Int32) (M_block : Nat → Int32) (M_left : Nat → Int32) (M_right : Nat → Int32) (M_pivot : Nat → Int32) (M_live : Nat → Int32) {H : Heap} {locs : List Loc} {ls : Array Slot}, p_M_readGiven_J155 M_size M_tape k k113 x1 x2 x3 x4 M_clauses M_given M_at M_to M_sort M_worth M_faultKind M_faultPlace M_plain M_minus M_block M_left M_right M_pivot M_live → WH D A s (WM am ca M_clauses M_given M_end M_taped M_size M_at M_to M_sort M_worth M_faultKind M_faultPlace M_isTold M_nodes M_plain M_minus M_block M_left M_right M_pivot M_live M_needed M_label M_tape M_of M_kept M_had M_told M_first M_second M_node M_nodeVariable M_nodeLow M_nodeHigh M_wait) H locs → lv_has ls 6 [(0, .ref (am 0)), (1, .int x1), (2, .int x2), (3, .int x3), (4, .int x4)] →
      (∀ (x2 : Int32) (x3 : Int32) (M_at : Int32) (M_to : Int32) (M_sort : Int32) (M_worth : Int32) (M_faultKind : Int32) (M_faultPlace : Int32) (H : Heap) (locs : List Loc) (ls : Array Slot), k113 x2 x3 M_at M_to M_sort M_worth M_faultKind M_faultPlace → WH D A s (WM am ca M_clauses M_given M_end M_taped M_size M_at M_to M_sort M_worth M_faultKind M_faultPlace M_isTold M_nodes M_plain M_minus M_block M_left M_right M_pivot M_live M_needed M_label M_tape M_of M_kept M_had M_told M_first M_second M_node M_nodeVariable M_nodeLow M_nodeHigh M_wait) H locs → lv_has ls 6 [(0, .ref (am 0)), (1, .int x1), (2, .int x2), (3, .int x3)] → W p l e rm_M_readGiven s m args below meth c H locs 0 0 (QV D A below args s (fun (u : Int32 × Int32 × Int32 × Int32 × Int32 × Int32 × Int32 × Int32 × (Nat → Int32) × (Nat → Int32) × (Nat → Int32) × (Nat → Int32) × (Nat → Int32) × (Nat → Int32) × (Nat → Int32)) => k u.1 u.2.1 u.2.2.1 u.2.2.2.1 u.2.2.2.2.1 u.2.2.2.2.2.1 u.2.2.2.2.2.2.1 u.2.2.2.2.2.2.2.1 u.2.2.2.2.2.2.2.2.1 u.2.2.2.2.2.2.2.2.2.1 u.2.2.2.2.2.2.2.2.2.2.1 u.2.2.2.2.2.2.2.2.2.2.2.1 u.2.2.2.2.2.2.2.2.2.2.2.2.1 u.2.2.2.2.2.2.2.2.2.2.2.2.2.1 u.2.2.2.2.2.2.2.2.2.2.2.2.2.2) (fun (u : Int32 × Int32 × Int32 × Int32 × Int32 × Int32 × Int32 × Int32 × (Nat → Int32) × (Nat → Int32) × (Nat → Int32) × (Nat → Int32) × (Nat → Int32) × (Nat → Int32) × (Nat → Int32)) => WM am ca u.1 u.2.1 M_end M_taped M_size u.2.2.1 u.2.2.2.1 u.2.2.2.2.1 u.2.2.2.2.2.1 u.2.2.2.2.2.2.1 u.2.2.2.2.2.2.2.1 M_isTold M_nodes u.2.2.2.2.2.2.2.2.1 u.2.2.2.2.2.2.2.2.2.1 u.2.2.2.2.2.2.2.2.2.2.1 u.2.2.2.2.2.2.2.2.2.2.2.1 u.2.2.2.2.2.2.2.2.2.2.2.2.1 u.2.2.2.2.2.2.2.2.2.2.2.2.2.1 u.2.2.2.2.2.2.2.2.2.2.2.2.2.2 M_needed M_label M_tape M_of M_kept M_had M_told M_first M_second M_node M_nodeVariable M_nodeLow M_nodeHigh M_wait) 0 0) (F0 m 113 ls [])) →
      W p l e rm_M_readGiven s m args below meth c H locs 0 0 (QV D A below args s (fun (u : Int32 × Int32 × Int32 × Int32 × Int32 × Int32 × Int32 × Int32 × (Nat → Int32) × (Nat → Int32) × (Nat → Int32) × (Nat → Int32) × (Nat → Int32) × (Nat → Int32) × (Nat → Int32)) => k u.1 u.2.1 u.2.2.1 u.2.2.2.1 u.2.2.2.2.1 u.2.2.2.2.2.1 u.2.2.2.2.2.2.1 u.2.2.2.2.2.2.2.1 u.2.2.2.2.2.2.2.2.1 u.2.2.2.2.2.2.2.2.2.1 u.2.2.2.2.2.2.2.2.2.2.1 u.2.2.2.2.2.2.2.2.2.2.2.1 u.2.2.2.2.2.2.2.2.2.2.2.2.1 u.2.2.2.2.2.2.2.2.2.2.2.2.2.1 u.2.2.2.2.2.2.2.2.2.2.2.2.2.2) (fun (u : Int32 × Int32 × Int32 × Int32 × Int32 × Int32 × Int32 × Int32 × (Nat → Int32) × (Nat → Int32) × (Nat → Int32) × (Nat → Int32) × (Nat → Int32) × (Nat → Int32) × (Nat → Int32)) => WM am ca u.1 u.2.1 M_end M_taped M_size u.2.2.1 u.2.2.2.1 u.2.2.2.2.1 u.2.2.2.2.2.1 u.2.2.2.2.2.2.1 u.2.2.2.2.2.2.2.1 M_isTold M_nodes u.2.2.2.2.2.2.2.2.1 u.2.2.2.2.2.2.2.2.2.1 u.2.2.2.2.2.2.2.2.2.2.1 u.2.2.2.2.2.2.2.2.2.2.2.1 u.2.2.2.2.2.2.2.2.2.2.2.2.1 u.2.2.2.2.2.2.2.2.2.2.2.2.2.1 u.2.2.2.2.2.2.2.2.2.2.2.2.2.2 M_needed M_label M_tape M_of M_kept M_had M_told M_first M_second M_node M_nodeVariable M_nodeLow M_nodeHigh M_wait) 0 0) (F0 m 155 ls []) := by
  have hx := C0.1
  have hb := C0.2.1
  intro x1 x2 x3 x4 M_clauses M_given M_at M_to M_sort M_worth M_faultKind M_faultPlace M_plain M_minus M_block M_left M_right M_pivot M_live H locs ls h hw hl h113
  unfold p_M_readGiven_J155 at h
  refine lv_aload_n hx hb d_M_readGiven_155 rfl (lv_at hl 0 rfl) ?_
  refine lv_aload_n hx hb d_M_readGiven_156 rfl (lv_at hl 0 rfl) ?_
  refine x_get C0 hw 0 rfl rfl i_M 17 (by decide) wm_742 rfl rfl d_M_readGiven_157 ?_
  refine lv_iconst (v := 1) hx hb d_M_readGiven_160 (by decide) ?_
  refine lv_icmp_ne (tgt := 168) hx hb d_M_readGiven_161 (by decide) (fun c_37 => ?_) (fun c_37 => ?_)
  · have h := h.1 c_37
    refine lv_iconst (v := 0) hx hb d_M_readGiven_168 (by decide) ?_
    refine b_M_readGiven_J169 C0 _ _ _ _ _ _ _ _ _ _ _ _ _ _ _ _ _ _ _ _ h hw (lv_sub hl [0, 1, 2, 3, 4] rfl) h113
  · have h := h.2 c_37
    refine lv_iconst (v := 1) hx hb d_M_readGiven_164 (by decide) ?_
    refine lv_goto (tgt := 169) hx hb d_M_readGiven_165 (by decide) ?_
    refine b_M_readGiven_J169 C0 _ _ _ _ _ _ _ _ _ _ _ _ _ _ _ _ _ _ _ _ h hw (lv_sub hl [0, 1, 2, 3, 4] rfl) h113
set_option maxHeartbeats 4000000 in
set_option maxRecDepth 100000 in
theorem b_M_readGiven_J144 {p : Program} {l : Launch} {e : Env} {s : State} {m : MethodId} {args : Array Value} {below : List Frame} {meth : Method} {c : Code} {D : va_G} {ca : Nat → ClassId} {tp : Nat} {A : Nat → Prop} {am : Nat → Nat} {M_end : Int32} {M_taped : Int32} {M_size : Int32} {M_isTold : Int32} {M_nodes : Int32} {M_needed : Nat → Int32} {M_label : Nat → Int32} {M_tape : Nat → Int32} {M_of : Nat → Int64} {M_kept : Nat → Int64} {M_had : Nat → Int32} {M_told : Nat → Int64} {M_first : Nat → Int64} {M_second : Nat → Int64} {M_node : Nat → Int64} {M_nodeVariable : Nat → Int32} {M_nodeLow : Nat → Int32} {M_nodeHigh : Nat → Int32} {M_wait : Nat → Int32}  {k : Int32 → Int32 → Int32 → Int32 → Int32 → Int32 → Int32 → Int32 → (Nat → Int32) → (Nat → Int32) → (Nat → Int32) → (Nat → Int32) → (Nat → Int32) → (Nat → Int32) → (Nat → Int32) → Prop} {k113 : Int32 → Int32 → Int32 → Int32 → Int32 → Int32 → Int32 → Int32 → Prop} (C0 : CX p s m args meth c b_M_readGiven 6 none R_M "readGiven" D ca tp A) :
    ∀ (x1 : Int32) (x2 : Int32) (x3 : Int32) (t0 : Int32) (M_clauses : Int32) (M_given : Int32) (M_at : Int32) (M_to : Int32) (M_sort : Int32) (M_worth : Int32) (M_faultKind : Int32) (M_faultPlace : Int32) (M_plain : Nat → Int32) (M_minus : Nat → Int32) (M_block : Nat → Int32) (M_left : Nat → Int32) (M_right : Nat → Int32) (M_pivot : Nat → Int32) (M_live : Nat → Int32) {H : Heap} {locs : List Loc} {ls : Array Slot}, p_M_readGiven_J144 M_size M_tape k k113 x1 x2 x3 t0 M_clauses M_given M_at M_to M_sort M_worth M_faultKind M_faultPlace M_plain M_minus M_block M_left M_right M_pivot M_live → WH D A s (WM am ca M_clauses M_given M_end M_taped M_size M_at M_to M_sort M_worth M_faultKind M_faultPlace M_isTold M_nodes M_plain M_minus M_block M_left M_right M_pivot M_live M_needed M_label M_tape M_of M_kept M_had M_told M_first M_second M_node M_nodeVariable M_nodeLow M_nodeHigh M_wait) H locs → lv_has ls 6 [(0, .ref (am 0)), (1, .int x1), (2, .int x2), (3, .int x3)] →
      (∀ (x2 : Int32) (x3 : Int32) (M_at : Int32) (M_to : Int32) (M_sort : Int32) (M_worth : Int32) (M_faultKind : Int32) (M_faultPlace : Int32) (H : Heap) (locs : List Loc) (ls : Array Slot), k113 x2 x3 M_at M_to M_sort M_worth M_faultKind M_faultPlace → WH D A s (WM am ca M_clauses M_given M_end M_taped M_size M_at M_to M_sort M_worth M_faultKind M_faultPlace M_isTold M_nodes M_plain M_minus M_block M_left M_right M_pivot M_live M_needed M_label M_tape M_of M_kept M_had M_told M_first M_second M_node M_nodeVariable M_nodeLow M_nodeHigh M_wait) H locs → lv_has ls 6 [(0, .ref (am 0)), (1, .int x1), (2, .int x2), (3, .int x3)] → W p l e rm_M_readGiven s m args below meth c H locs 0 0 (QV D A below args s (fun (u : Int32 × Int32 × Int32 × Int32 × Int32 × Int32 × Int32 × Int32 × (Nat → Int32) × (Nat → Int32) × (Nat → Int32) × (Nat → Int32) × (Nat → Int32) × (Nat → Int32) × (Nat → Int32)) => k u.1 u.2.1 u.2.2.1 u.2.2.2.1 u.2.2.2.2.1 u.2.2.2.2.2.1 u.2.2.2.2.2.2.1 u.2.2.2.2.2.2.2.1 u.2.2.2.2.2.2.2.2.1 u.2.2.2.2.2.2.2.2.2.1 u.2.2.2.2.2.2.2.2.2.2.1 u.2.2.2.2.2.2.2.2.2.2.2.1 u.2.2.2.2.2.2.2.2.2.2.2.2.1 u.2.2.2.2.2.2.2.2.2.2.2.2.2.1 u.2.2.2.2.2.2.2.2.2.2.2.2.2.2) (fun (u : Int32 × Int32 × Int32 × Int32 × Int32 × Int32 × Int32 × Int32 × (Nat → Int32) × (Nat → Int32) × (Nat → Int32) × (Nat → Int32) × (Nat → Int32) × (Nat → Int32) × (Nat → Int32)) => WM am ca u.1 u.2.1 M_end M_taped M_size u.2.2.1 u.2.2.2.1 u.2.2.2.2.1 u.2.2.2.2.2.1 u.2.2.2.2.2.2.1 u.2.2.2.2.2.2.2.1 M_isTold M_nodes u.2.2.2.2.2.2.2.2.1 u.2.2.2.2.2.2.2.2.2.1 u.2.2.2.2.2.2.2.2.2.2.1 u.2.2.2.2.2.2.2.2.2.2.2.1 u.2.2.2.2.2.2.2.2.2.2.2.2.1 u.2.2.2.2.2.2.2.2.2.2.2.2.2.1 u.2.2.2.2.2.2.2.2.2.2.2.2.2.2 M_needed M_label M_tape M_of M_kept M_had M_told M_first M_second M_node M_nodeVariable M_nodeLow M_nodeHigh M_wait) 0 0) (F0 m 113 ls [])) →
      W p l e rm_M_readGiven s m args below meth c H locs 0 0 (QV D A below args s (fun (u : Int32 × Int32 × Int32 × Int32 × Int32 × Int32 × Int32 × Int32 × (Nat → Int32) × (Nat → Int32) × (Nat → Int32) × (Nat → Int32) × (Nat → Int32) × (Nat → Int32) × (Nat → Int32)) => k u.1 u.2.1 u.2.2.1 u.2.2.2.1 u.2.2.2.2.1 u.2.2.2.2.2.1 u.2.2.2.2.2.2.1 u.2.2.2.2.2.2.2.1 u.2.2.2.2.2.2.2.2.1 u.2.2.2.2.2.2.2.2.2.1 u.2.2.2.2.2.2.2.2.2.2.1 u.2.2.2.2.2.2.2.2.2.2.2.1 u.2.2.2.2.2.2.2.2.2.2.2.2.1 u.2.2.2.2.2.2.2.2.2.2.2.2.2.1 u.2.2.2.2.2.2.2.2.2.2.2.2.2.2) (fun (u : Int32 × Int32 × Int32 × Int32 × Int32 × Int32 × Int32 × Int32 × (Nat → Int32) × (Nat → Int32) × (Nat → Int32) × (Nat → Int32) × (Nat → Int32) × (Nat → Int32) × (Nat → Int32)) => WM am ca u.1 u.2.1 M_end M_taped M_size u.2.2.1 u.2.2.2.1 u.2.2.2.2.1 u.2.2.2.2.2.1 u.2.2.2.2.2.2.1 u.2.2.2.2.2.2.2.1 M_isTold M_nodes u.2.2.2.2.2.2.2.2.1 u.2.2.2.2.2.2.2.2.2.1 u.2.2.2.2.2.2.2.2.2.2.1 u.2.2.2.2.2.2.2.2.2.2.2.1 u.2.2.2.2.2.2.2.2.2.2.2.2.1 u.2.2.2.2.2.2.2.2.2.2.2.2.2.1 u.2.2.2.2.2.2.2.2.2.2.2.2.2.2 M_needed M_label M_tape M_of M_kept M_had M_told M_first M_second M_node M_nodeVariable M_nodeLow M_nodeHigh M_wait) 0 0) (F0 m 144 ls [.int t0]) := by
  have hx := C0.1
  have hb := C0.2.1
  intro x1 x2 x3 t0 M_clauses M_given M_at M_to M_sort M_worth M_faultKind M_faultPlace M_plain M_minus M_block M_left M_right M_pivot M_live H locs ls h hw hl h113
  unfold p_M_readGiven_J144 at h
  refine lv_istore (lv' := [(4, .int t0), (0, .ref (am 0)), (1, .int x1), (2, .int x2), (3, .int x3)]) hx hb d_M_readGiven_144 hl (by decide) rfl (fun ls hl => ?_)
  refine lv_iload hx hb d_M_readGiven_146 (lv_at hl 0 rfl) ?_
  refine lv_if_eq (tgt := 155) hx hb d_M_readGiven_148 (by decide) (fun c_36 => ?_) (fun c_36 => ?_)
  · have h := h.1 c_36
    refine b_M_readGiven_J155 C0 _ _ _ _ _ _ _ _ _ _ _ _ _ _ _ _ _ _ _ h hw (lv_sub hl [1, 2, 3, 4, 0] rfl) h113
  · have h := h.2 c_36
    refine lv_aload_n hx hb d_M_readGiven_151 rfl (lv_at hl 1 rfl) ?_
    refine x_callVv C0 hw hl (c_M_cut h) g_M_cut wm_840 ⟨wm_33, wm_842⟩ 0 rfl rfl rfl (As := []) (rest := []) rfl rfl (Nat.le_of_ble_eq_true rfl) ⟨rfl, rfl⟩ ⟨Nat.le_of_ble_eq_true rfl, Nat.le_of_ble_eq_true rfl⟩ ⟨Nat.le_of_ble_eq_true rfl, Nat.le_of_ble_eq_true rfl⟩ d_M_readGiven_152 (fun u H locs h hw => ?_)
    obtain ⟨M_at_65, M_to_66, M_sort_67, M_worth_68⟩ := u
    refine b_M_readGiven_J155 C0 _ _ _ _ _ _ _ _ _ _ _ _ _ _ _ _ _ _ _ h hw (lv_sub hl [1, 2, 3, 4, 0] rfl) h113
set_option maxHeartbeats 4000000 in
set_option maxRecDepth 100000 in
theorem b_M_readGiven_J130 {p : Program} {l : Launch} {e : Env} {s : State} {m : MethodId} {args : Array Value} {below : List Frame} {meth : Method} {c : Code} {D : va_G} {ca : Nat → ClassId} {tp : Nat} {A : Nat → Prop} {am : Nat → Nat} {M_end : Int32} {M_taped : Int32} {M_size : Int32} {M_isTold : Int32} {M_nodes : Int32} {M_needed : Nat → Int32} {M_label : Nat → Int32} {M_tape : Nat → Int32} {M_of : Nat → Int64} {M_kept : Nat → Int64} {M_had : Nat → Int32} {M_told : Nat → Int64} {M_first : Nat → Int64} {M_second : Nat → Int64} {M_node : Nat → Int64} {M_nodeVariable : Nat → Int32} {M_nodeLow : Nat → Int32} {M_nodeHigh : Nat → Int32} {M_wait : Nat → Int32}  {k : Int32 → Int32 → Int32 → Int32 → Int32 → Int32 → Int32 → Int32 → (Nat → Int32) → (Nat → Int32) → (Nat → Int32) → (Nat → Int32) → (Nat → Int32) → (Nat → Int32) → (Nat → Int32) → Prop} {k113 : Int32 → Int32 → Int32 → Int32 → Int32 → Int32 → Int32 → Int32 → Prop} (C0 : CX p s m args meth c b_M_readGiven 6 none R_M "readGiven" D ca tp A) :
    ∀ (x1 : Int32) (x2 : Int32) (x3 : Int32) (M_clauses : Int32) (M_given : Int32) (M_at : Int32) (M_to : Int32) (M_sort : Int32) (M_worth : Int32) (M_faultKind : Int32) (M_faultPlace : Int32) (M_plain : Nat → Int32) (M_minus : Nat → Int32) (M_block : Nat → Int32) (M_left : Nat → Int32) (M_right : Nat → Int32) (M_pivot : Nat → Int32) (M_live : Nat → Int32) {H : Heap} {locs : List Loc} {ls : Array Slot}, p_M_readGiven_J130 M_size M_tape k k113 x1 x2 x3 M_clauses M_given M_at M_to M_sort M_worth M_faultKind M_faultPlace M_plain M_minus M_block M_left M_right M_pivot M_live → WH D A s (WM am ca M_clauses M_given M_end M_taped M_size M_at M_to M_sort M_worth M_faultKind M_faultPlace M_isTold M_nodes M_plain M_minus M_block M_left M_right M_pivot M_live M_needed M_label M_tape M_of M_kept M_had M_told M_first M_second M_node M_nodeVariable M_nodeLow M_nodeHigh M_wait) H locs → lv_has ls 6 [(0, .ref (am 0)), (1, .int x1), (2, .int x2), (3, .int x3)] →
      (∀ (x2 : Int32) (x3 : Int32) (M_at : Int32) (M_to : Int32) (M_sort : Int32) (M_worth : Int32) (M_faultKind : Int32) (M_faultPlace : Int32) (H : Heap) (locs : List Loc) (ls : Array Slot), k113 x2 x3 M_at M_to M_sort M_worth M_faultKind M_faultPlace → WH D A s (WM am ca M_clauses M_given M_end M_taped M_size M_at M_to M_sort M_worth M_faultKind M_faultPlace M_isTold M_nodes M_plain M_minus M_block M_left M_right M_pivot M_live M_needed M_label M_tape M_of M_kept M_had M_told M_first M_second M_node M_nodeVariable M_nodeLow M_nodeHigh M_wait) H locs → lv_has ls 6 [(0, .ref (am 0)), (1, .int x1), (2, .int x2), (3, .int x3)] → W p l e rm_M_readGiven s m args below meth c H locs 0 0 (QV D A below args s (fun (u : Int32 × Int32 × Int32 × Int32 × Int32 × Int32 × Int32 × Int32 × (Nat → Int32) × (Nat → Int32) × (Nat → Int32) × (Nat → Int32) × (Nat → Int32) × (Nat → Int32) × (Nat → Int32)) => k u.1 u.2.1 u.2.2.1 u.2.2.2.1 u.2.2.2.2.1 u.2.2.2.2.2.1 u.2.2.2.2.2.2.1 u.2.2.2.2.2.2.2.1 u.2.2.2.2.2.2.2.2.1 u.2.2.2.2.2.2.2.2.2.1 u.2.2.2.2.2.2.2.2.2.2.1 u.2.2.2.2.2.2.2.2.2.2.2.1 u.2.2.2.2.2.2.2.2.2.2.2.2.1 u.2.2.2.2.2.2.2.2.2.2.2.2.2.1 u.2.2.2.2.2.2.2.2.2.2.2.2.2.2) (fun (u : Int32 × Int32 × Int32 × Int32 × Int32 × Int32 × Int32 × Int32 × (Nat → Int32) × (Nat → Int32) × (Nat → Int32) × (Nat → Int32) × (Nat → Int32) × (Nat → Int32) × (Nat → Int32)) => WM am ca u.1 u.2.1 M_end M_taped M_size u.2.2.1 u.2.2.2.1 u.2.2.2.2.1 u.2.2.2.2.2.1 u.2.2.2.2.2.2.1 u.2.2.2.2.2.2.2.1 M_isTold M_nodes u.2.2.2.2.2.2.2.2.1 u.2.2.2.2.2.2.2.2.2.1 u.2.2.2.2.2.2.2.2.2.2.1 u.2.2.2.2.2.2.2.2.2.2.2.1 u.2.2.2.2.2.2.2.2.2.2.2.2.1 u.2.2.2.2.2.2.2.2.2.2.2.2.2.1 u.2.2.2.2.2.2.2.2.2.2.2.2.2.2 M_needed M_label M_tape M_of M_kept M_had M_told M_first M_second M_node M_nodeVariable M_nodeLow M_nodeHigh M_wait) 0 0) (F0 m 113 ls [])) →
      W p l e rm_M_readGiven s m args below meth c H locs 0 0 (QV D A below args s (fun (u : Int32 × Int32 × Int32 × Int32 × Int32 × Int32 × Int32 × Int32 × (Nat → Int32) × (Nat → Int32) × (Nat → Int32) × (Nat → Int32) × (Nat → Int32) × (Nat → Int32) × (Nat → Int32)) => k u.1 u.2.1 u.2.2.1 u.2.2.2.1 u.2.2.2.2.1 u.2.2.2.2.2.1 u.2.2.2.2.2.2.1 u.2.2.2.2.2.2.2.1 u.2.2.2.2.2.2.2.2.1 u.2.2.2.2.2.2.2.2.2.1 u.2.2.2.2.2.2.2.2.2.2.1 u.2.2.2.2.2.2.2.2.2.2.2.1 u.2.2.2.2.2.2.2.2.2.2.2.2.1 u.2.2.2.2.2.2.2.2.2.2.2.2.2.1 u.2.2.2.2.2.2.2.2.2.2.2.2.2.2) (fun (u : Int32 × Int32 × Int32 × Int32 × Int32 × Int32 × Int32 × Int32 × (Nat → Int32) × (Nat → Int32) × (Nat → Int32) × (Nat → Int32) × (Nat → Int32) × (Nat → Int32) × (Nat → Int32)) => WM am ca u.1 u.2.1 M_end M_taped M_size u.2.2.1 u.2.2.2.1 u.2.2.2.2.1 u.2.2.2.2.2.1 u.2.2.2.2.2.2.1 u.2.2.2.2.2.2.2.1 M_isTold M_nodes u.2.2.2.2.2.2.2.2.1 u.2.2.2.2.2.2.2.2.2.1 u.2.2.2.2.2.2.2.2.2.2.1 u.2.2.2.2.2.2.2.2.2.2.2.1 u.2.2.2.2.2.2.2.2.2.2.2.2.1 u.2.2.2.2.2.2.2.2.2.2.2.2.2.1 u.2.2.2.2.2.2.2.2.2.2.2.2.2.2 M_needed M_label M_tape M_of M_kept M_had M_told M_first M_second M_node M_nodeVariable M_nodeLow M_nodeHigh M_wait) 0 0) (F0 m 130 ls []) := by
  have hx := C0.1
  have hb := C0.2.1
  intro x1 x2 x3 M_clauses M_given M_at M_to M_sort M_worth M_faultKind M_faultPlace M_plain M_minus M_block M_left M_right M_pivot M_live H locs ls h hw hl h113
  unfold p_M_readGiven_J130 at h
  refine lv_aload_n hx hb d_M_readGiven_130 rfl (lv_at hl 0 rfl) ?_
  refine x_get C0 hw 0 rfl rfl i_M 17 (by decide) wm_742 rfl rfl d_M_readGiven_131 ?_
  refine lv_bipush (v := 45) hx hb d_M_readGiven_134 (by decide) ?_
  refine lv_icmp_ne (tgt := 143) hx hb d_M_readGiven_136 (by decide) (fun c_35 => ?_) (fun c_35 => ?_)
  · have h := h.1 c_35
    refine lv_iconst (v := 0) hx hb d_M_readGiven_143 (by decide) ?_
    refine b_M_readGiven_J144 C0 _ _ _ _ _ _ _ _ _ _ _ _ _ _ _ _ _ _ _ h hw (lv_sub hl [0, 1, 2, 3] rfl) h113
  · have h := h.2 c_35
    refine lv_iconst (v := 1) hx hb d_M_readGiven_139 (by decide) ?_
    refine lv_goto (tgt := 144) hx hb d_M_readGiven_140 (by decide) ?_
    refine b_M_readGiven_J144 C0 _ _ _ _ _ _ _ _ _ _ _ _ _ _ _ _ _ _ _ h hw (lv_sub hl [0, 1, 2, 3] rfl) h113
set_option maxHeartbeats 4000000 in
set_option maxRecDepth 100000 in
theorem b_M_readGiven_L113 {p : Program} {l : Launch} {e : Env} {s : State} {m : MethodId} {args : Array Value} {below : List Frame} {meth : Method} {c : Code} {D : va_G} {ca : Nat → ClassId} {tp : Nat} {A : Nat → Prop} {am : Nat → Nat} {M_clauses : Int32} {M_given : Int32} {M_end : Int32} {M_taped : Int32} {M_size : Int32} {M_isTold : Int32} {M_nodes : Int32} {M_plain : Nat → Int32} {M_minus : Nat → Int32} {M_block : Nat → Int32} {M_left : Nat → Int32} {M_right : Nat → Int32} {M_pivot : Nat → Int32} {M_live : Nat → Int32} {M_needed : Nat → Int32} {M_label : Nat → Int32} {M_tape : Nat → Int32} {M_of : Nat → Int64} {M_kept : Nat → Int64} {M_had : Nat → Int32} {M_told : Nat → Int64} {M_first : Nat → Int64} {M_second : Nat → Int64} {M_node : Nat → Int64} {M_nodeVariable : Nat → Int32} {M_nodeLow : Nat → Int32} {M_nodeHigh : Nat → Int32} {M_wait : Nat → Int32} {x1 : Int32} {k : Int32 → Int32 → Int32 → Int32 → Int32 → Int32 → Int32 → Int32 → (Nat → Int32) → (Nat → Int32) → (Nat → Int32) → (Nat → Int32) → (Nat → Int32) → (Nat → Int32) → (Nat → Int32) → Prop} {k265 : Int32 → Int32 → Int32 → Int32 → Int32 → Int32 → Int32 → Int32 → Prop} (C0 : CX p s m args meth c b_M_readGiven 6 none R_M "readGiven" D ca tp A) :
    ∀ (n : Nat) (x2 : Int32) (x3 : Int32) (M_at : Int32) (M_to : Int32) (M_sort : Int32) (M_worth : Int32) (M_faultKind : Int32) (M_faultPlace : Int32) {H : Heap} {locs : List Loc} {ls : Array Slot}, p_M_readGiven_L113 M_clauses M_given M_size M_plain M_minus M_block M_left M_right M_pivot M_live M_tape x1 k k265 n x2 x3 M_at M_to M_sort M_worth M_faultKind M_faultPlace → WH D A s (WM am ca M_clauses M_given M_end M_taped M_size M_at M_to M_sort M_worth M_faultKind M_faultPlace M_isTold M_nodes M_plain M_minus M_block M_left M_right M_pivot M_live M_needed M_label M_tape M_of M_kept M_had M_told M_first M_second M_node M_nodeVariable M_nodeLow M_nodeHigh M_wait) H locs → lv_has ls 6 [(0, .ref (am 0)), (1, .int x1), (2, .int x2), (3, .int x3)] →
      (∀ (x2 : Int32) (x3 : Int32) (M_at : Int32) (M_to : Int32) (M_sort : Int32) (M_worth : Int32) (M_faultKind : Int32) (M_faultPlace : Int32) (H : Heap) (locs : List Loc) (ls : Array Slot), k265 x2 x3 M_at M_to M_sort M_worth M_faultKind M_faultPlace → WH D A s (WM am ca M_clauses M_given M_end M_taped M_size M_at M_to M_sort M_worth M_faultKind M_faultPlace M_isTold M_nodes M_plain M_minus M_block M_left M_right M_pivot M_live M_needed M_label M_tape M_of M_kept M_had M_told M_first M_second M_node M_nodeVariable M_nodeLow M_nodeHigh M_wait) H locs → lv_has ls 6 [(0, .ref (am 0)), (1, .int x1), (2, .int x2), (3, .int x3)] → W p l e rm_M_readGiven s m args below meth c H locs 0 0 (QV D A below args s (fun (u : Int32 × Int32 × Int32 × Int32 × Int32 × Int32 × Int32 × Int32 × (Nat → Int32) × (Nat → Int32) × (Nat → Int32) × (Nat → Int32) × (Nat → Int32) × (Nat → Int32) × (Nat → Int32)) => k u.1 u.2.1 u.2.2.1 u.2.2.2.1 u.2.2.2.2.1 u.2.2.2.2.2.1 u.2.2.2.2.2.2.1 u.2.2.2.2.2.2.2.1 u.2.2.2.2.2.2.2.2.1 u.2.2.2.2.2.2.2.2.2.1 u.2.2.2.2.2.2.2.2.2.2.1 u.2.2.2.2.2.2.2.2.2.2.2.1 u.2.2.2.2.2.2.2.2.2.2.2.2.1 u.2.2.2.2.2.2.2.2.2.2.2.2.2.1 u.2.2.2.2.2.2.2.2.2.2.2.2.2.2) (fun (u : Int32 × Int32 × Int32 × Int32 × Int32 × Int32 × Int32 × Int32 × (Nat → Int32) × (Nat → Int32) × (Nat → Int32) × (Nat → Int32) × (Nat → Int32) × (Nat → Int32) × (Nat → Int32)) => WM am ca u.1 u.2.1 M_end M_taped M_size u.2.2.1 u.2.2.2.1 u.2.2.2.2.1 u.2.2.2.2.2.1 u.2.2.2.2.2.2.1 u.2.2.2.2.2.2.2.1 M_isTold M_nodes u.2.2.2.2.2.2.2.2.1 u.2.2.2.2.2.2.2.2.2.1 u.2.2.2.2.2.2.2.2.2.2.1 u.2.2.2.2.2.2.2.2.2.2.2.1 u.2.2.2.2.2.2.2.2.2.2.2.2.1 u.2.2.2.2.2.2.2.2.2.2.2.2.2.1 u.2.2.2.2.2.2.2.2.2.2.2.2.2.2 M_needed M_label M_tape M_of M_kept M_had M_told M_first M_second M_node M_nodeVariable M_nodeLow M_nodeHigh M_wait) 0 0) (F0 m 265 ls [])) →
      W p l e rm_M_readGiven s m args below meth c H locs 0 0 (QV D A below args s (fun (u : Int32 × Int32 × Int32 × Int32 × Int32 × Int32 × Int32 × Int32 × (Nat → Int32) × (Nat → Int32) × (Nat → Int32) × (Nat → Int32) × (Nat → Int32) × (Nat → Int32) × (Nat → Int32)) => k u.1 u.2.1 u.2.2.1 u.2.2.2.1 u.2.2.2.2.1 u.2.2.2.2.2.1 u.2.2.2.2.2.2.1 u.2.2.2.2.2.2.2.1 u.2.2.2.2.2.2.2.2.1 u.2.2.2.2.2.2.2.2.2.1 u.2.2.2.2.2.2.2.2.2.2.1 u.2.2.2.2.2.2.2.2.2.2.2.1 u.2.2.2.2.2.2.2.2.2.2.2.2.1 u.2.2.2.2.2.2.2.2.2.2.2.2.2.1 u.2.2.2.2.2.2.2.2.2.2.2.2.2.2) (fun (u : Int32 × Int32 × Int32 × Int32 × Int32 × Int32 × Int32 × Int32 × (Nat → Int32) × (Nat → Int32) × (Nat → Int32) × (Nat → Int32) × (Nat → Int32) × (Nat → Int32) × (Nat → Int32)) => WM am ca u.1 u.2.1 M_end M_taped M_size u.2.2.1 u.2.2.2.1 u.2.2.2.2.1 u.2.2.2.2.2.1 u.2.2.2.2.2.2.1 u.2.2.2.2.2.2.2.1 M_isTold M_nodes u.2.2.2.2.2.2.2.2.1 u.2.2.2.2.2.2.2.2.2.1 u.2.2.2.2.2.2.2.2.2.2.1 u.2.2.2.2.2.2.2.2.2.2.2.1 u.2.2.2.2.2.2.2.2.2.2.2.2.1 u.2.2.2.2.2.2.2.2.2.2.2.2.2.1 u.2.2.2.2.2.2.2.2.2.2.2.2.2.2 M_needed M_label M_tape M_of M_kept M_had M_told M_first M_second M_node M_nodeVariable M_nodeLow M_nodeHigh M_wait) 0 0) (F0 m 113 ls []) := by
  have hx := C0.1
  have hb := C0.2.1
  intro n
  induction n with
  | zero =>
    intro x2 x3 M_at M_to M_sort M_worth M_faultKind M_faultPlace H locs ls h
    exact False.elim h
  | succ n ih =>
    intro x2 x3 M_at M_to M_sort M_worth M_faultKind M_faultPlace H locs ls h hw hl h265
    unfold p_M_readGiven_L113 at h
    refine lv_aload_n hx hb d_M_readGiven_113 rfl (lv_at hl 0 rfl) ?_
    refine x_get C0 hw 0 rfl rfl i_M 17 (by decide) wm_742 rfl rfl d_M_readGiven_114 ?_
    refine lv_bipush (v := 45) hx hb d_M_readGiven_117 (by decide) ?_
    refine lv_icmp_eq (tgt := 130) hx hb d_M_readGiven_119 (by decide) (fun c_34 => ?_) (fun c_34 => ?_)
    · have h := h.1 c_34
      refine b_M_readGiven_J130 C0 _ _ _ _ _ _ _ _ _ _ _ _ _ _ _ _ _ _ h hw (lv_sub hl [0, 1, 2, 3] rfl) (fun _ _ _ _ _ _ _ _ H locs ls h hw hl => ih _ _ _ _ _ _ _ _ h hw hl h265)
    · have h := h.2 c_34
      refine lv_aload_n hx hb d_M_readGiven_122 rfl (lv_at hl 0 rfl) ?_
      refine x_get C0 hw 0 rfl rfl i_M 17 (by decide) wm_742 rfl rfl d_M_readGiven_123 ?_
      refine lv_iconst (v := 1) hx hb d_M_readGiven_126 (by decide) ?_
      refine lv_icmp_ne (tgt := 265) hx hb d_M_readGiven_127 (by decide) (fun c_70 => ?_) (fun c_70 => ?_)
      · have h := h.1 c_70
        exact h265 _ _ _ _ _ _ _ _ _ _ _ h hw (lv_sub hl [0, 1, 2, 3] rfl)
      · have h := h.2 c_70
        refine b_M_readGiven_J130 C0 _ _ _ _ _ _ _ _ _ _ _ _ _ _ _ _ _ _ h hw (lv_sub hl [0, 1, 2, 3] rfl) (fun _ _ _ _ _ _ _ _ H locs ls h hw hl => ih _ _ _ _ _ _ _ _ h hw hl h265)
set_option maxHeartbeats 4000000 in
set_option maxRecDepth 100000 in
theorem b_M_readGiven_J82 {p : Program} {l : Launch} {e : Env} {s : State} {m : MethodId} {args : Array Value} {below : List Frame} {meth : Method} {c : Code} {D : va_G} {ca : Nat → ClassId} {tp : Nat} {A : Nat → Prop} {am : Nat → Nat} {M_end : Int32} {M_taped : Int32} {M_size : Int32} {M_isTold : Int32} {M_nodes : Int32} {M_needed : Nat → Int32} {M_label : Nat → Int32} {M_tape : Nat → Int32} {M_of : Nat → Int64} {M_kept : Nat → Int64} {M_had : Nat → Int32} {M_told : Nat → Int64} {M_first : Nat → Int64} {M_second : Nat → Int64} {M_node : Nat → Int64} {M_nodeVariable : Nat → Int32} {M_nodeLow : Nat → Int32} {M_nodeHigh : Nat → Int32} {M_wait : Nat → Int32}  {k : Int32 → Int32 → Int32 → Int32 → Int32 → Int32 → Int32 → Int32 → (Nat → Int32) → (Nat → Int32) → (Nat → Int32) → (Nat → Int32) → (Nat → Int32) → (Nat → Int32) → (Nat → Int32) → Prop}  (C0 : CX p s m args meth c b_M_readGiven 6 none R_M "readGiven" D ca tp A) :
    ∀ (t0 : Int32) (M_clauses : Int32) (M_given : Int32) (M_at : Int32) (M_to : Int32) (M_sort : Int32) (M_worth : Int32) (M_faultKind : Int32) (M_faultPlace : Int32) (M_plain : Nat → Int32) (M_minus : Nat → Int32) (M_block : Nat → Int32) (M_left : Nat → Int32) (M_right : Nat → Int32) (M_pivot : Nat → Int32) (M_live : Nat → Int32) {H : Heap} {locs : List Loc} {ls : Array Slot}, p_M_readGiven_J82 M_size M_tape k t0 M_clauses M_given M_at M_to M_sort M_worth M_faultKind M_faultPlace M_plain M_minus M_block M_left M_right M_pivot M_live → WH D A s (WM am ca M_clauses M_given M_end M_taped M_size M_at M_to M_sort M_worth M_faultKind M_faultPlace M_isTold M_nodes M_plain M_minus M_block M_left M_right M_pivot M_live M_needed M_label M_tape M_of M_kept M_had M_told M_first M_second M_node M_nodeVariable M_nodeLow M_nodeHigh M_wait) H locs → lv_has ls 6 [(0, .ref (am 0))] →
      W p l e rm_M_readGiven s m args below meth c H locs 0 0 (QV D A below args s (fun (u : Int32 × Int32 × Int32 × Int32 × Int32 × Int32 × Int32 × Int32 × (Nat → Int32) × (Nat → Int32) × (Nat → Int32) × (Nat → Int32) × (Nat → Int32) × (Nat → Int32) × (Nat → Int32)) => k u.1 u.2.1 u.2.2.1 u.2.2.2.1 u.2.2.2.2.1 u.2.2.2.2.2.1 u.2.2.2.2.2.2.1 u.2.2.2.2.2.2.2.1 u.2.2.2.2.2.2.2.2.1 u.2.2.2.2.2.2.2.2.2.1 u.2.2.2.2.2.2.2.2.2.2.1 u.2.2.2.2.2.2.2.2.2.2.2.1 u.2.2.2.2.2.2.2.2.2.2.2.2.1 u.2.2.2.2.2.2.2.2.2.2.2.2.2.1 u.2.2.2.2.2.2.2.2.2.2.2.2.2.2) (fun (u : Int32 × Int32 × Int32 × Int32 × Int32 × Int32 × Int32 × Int32 × (Nat → Int32) × (Nat → Int32) × (Nat → Int32) × (Nat → Int32) × (Nat → Int32) × (Nat → Int32) × (Nat → Int32)) => WM am ca u.1 u.2.1 M_end M_taped M_size u.2.2.1 u.2.2.2.1 u.2.2.2.2.1 u.2.2.2.2.2.1 u.2.2.2.2.2.2.1 u.2.2.2.2.2.2.2.1 M_isTold M_nodes u.2.2.2.2.2.2.2.2.1 u.2.2.2.2.2.2.2.2.2.1 u.2.2.2.2.2.2.2.2.2.2.1 u.2.2.2.2.2.2.2.2.2.2.2.1 u.2.2.2.2.2.2.2.2.2.2.2.2.1 u.2.2.2.2.2.2.2.2.2.2.2.2.2.1 u.2.2.2.2.2.2.2.2.2.2.2.2.2.2 M_needed M_label M_tape M_of M_kept M_had M_told M_first M_second M_node M_nodeVariable M_nodeLow M_nodeHigh M_wait) 0 0) (F0 m 82 ls [.int t0, .ref (am 0)]) := by
  have hx := C0.1
  have hb := C0.2.1
  intro t0 M_clauses M_given M_at M_to M_sort M_worth M_faultKind M_faultPlace M_plain M_minus M_block M_left M_right M_pivot M_live H locs ls h hw hl
  unfold p_M_readGiven_J82 at h
  refine lv_iconst (v := 2) hx hb d_M_readGiven_82 (by decide) ?_
  refine x_callVi C0 hw hl (c_M_need h) g_M_need wm_851 ⟨wm_35, wm_853⟩ 0 rfl rfl rfl (As := [.int t0, .int (2 : Int32)]) (rest := []) rfl rfl (Nat.le_of_ble_eq_true rfl) ⟨rfl, rfl⟩ ⟨Nat.le_of_ble_eq_true rfl, Nat.le_of_ble_eq_true rfl⟩ ⟨Nat.le_of_ble_eq_true rfl, Nat.le_of_ble_eq_true rfl⟩ d_M_readGiven_83 (fun r_19 u H locs h hw => ?_)
  obtain ⟨M_faultKind_17, M_faultPlace_18⟩ := u
  refine lv_if_ne (tgt := 90) hx hb d_M_readGiven_86 (by decide) (fun c_20 => ?_) (fun c_20 => ?_)
  · have h := h.1 c_20
    refine lv_aload_n hx hb d_M_readGiven_90 rfl (lv_at hl 0 rfl) ?_
    refine x_get C0 hw 0 rfl rfl i_M 18 (by decide) wm_743 rfl rfl d_M_readGiven_91 ?_
    refine lv_istore_n (lv' := [(1, .int M_worth), (0, .ref (am 0))]) hx hb d_M_readGiven_94 rfl hl (by decide) rfl (fun ls hl => ?_)
    refine lv_aload_n hx hb d_M_readGiven_95 rfl (lv_at hl 1 rfl) ?_
    refine x_callVv C0 hw hl (c_M_cut h) g_M_cut wm_840 ⟨wm_33, wm_842⟩ 0 rfl rfl rfl (As := []) (rest := []) rfl rfl (Nat.le_of_ble_eq_true rfl) ⟨rfl, rfl⟩ ⟨Nat.le_of_ble_eq_true rfl, Nat.le_of_ble_eq_true rfl⟩ ⟨Nat.le_of_ble_eq_true rfl, Nat.le_of_ble_eq_true rfl⟩ d_M_readGiven_96 (fun u H locs h hw => ?_)
    obtain ⟨M_at_21, M_to_22, M_sort_23, M_worth_24⟩ := u
    refine lv_aload_n hx hb d_M_readGiven_99 rfl (lv_at hl 1 rfl) ?_
    refine lv_bipush (v := 58) hx hb d_M_readGiven_100 (by decide) ?_
    refine x_callVi C0 hw hl (c_M_takes h) g_M_takes wm_855 ⟨wm_36, wm_857⟩ 0 rfl rfl rfl (As := [.int (58 : Int32)]) (rest := []) rfl rfl (Nat.le_of_ble_eq_true rfl) ⟨rfl, rfl⟩ ⟨Nat.le_of_ble_eq_true rfl, Nat.le_of_ble_eq_true rfl⟩ ⟨Nat.le_of_ble_eq_true rfl, Nat.le_of_ble_eq_true rfl⟩ d_M_readGiven_102 (fun r_32 u H locs h hw => ?_)
    obtain ⟨M_at_26, M_to_27, M_sort_28, M_worth_29, M_faultKind_30, M_faultPlace_31⟩ := u
    refine lv_if_ne (tgt := 109) hx hb d_M_readGiven_105 (by decide) (fun c_33 => ?_) (fun c_33 => ?_)
    · have h := h.1 c_33
      refine lv_iconst (v := 0) hx hb d_M_readGiven_109 (by decide) ?_
      refine lv_istore_n (lv' := [(2, .int (0 : Int32)), (1, .int M_worth), (0, .ref (am 0))]) hx hb d_M_readGiven_110 rfl hl (by decide) rfl (fun ls hl => ?_)
      refine lv_iconst (v := 0) hx hb d_M_readGiven_111 (by decide) ?_
      refine lv_istore_n (lv' := [(3, .int (0 : Int32)), (2, .int (0 : Int32)), (1, .int M_worth), (0, .ref (am 0))]) hx hb d_M_readGiven_112 rfl hl (by decide) rfl (fun ls hl => ?_)
      obtain ⟨j_97, h⟩ := h
      refine b_M_readGiven_L113 C0 _ _ _ _ _ _ _ _ _ h hw (lv_sub hl [3, 2, 1, 0] rfl) (fun x2_71 x3_72 M_at_73 M_to_74 M_sort_75 M_worth_76 M_faultKind_77 M_faultPlace_78 H locs ls h hw hl => ?_)
      refine lv_aload_n hx hb d_M_readGiven_265 rfl (lv_at hl 0 rfl) ?_
      refine lv_bipush (v := 59) hx hb d_M_readGiven_266 (by decide) ?_
      refine x_callVi C0 hw hl (c_M_takes h) g_M_takes wm_855 ⟨wm_36, wm_857⟩ 0 rfl rfl rfl (As := [.int (59 : Int32)]) (rest := []) rfl rfl (Nat.le_of_ble_eq_true rfl) ⟨rfl, rfl⟩ ⟨Nat.le_of_ble_eq_true rfl, Nat.le_of_ble_eq_true rfl⟩ ⟨Nat.le_of_ble_eq_true rfl, Nat.le_of_ble_eq_true rfl⟩ d_M_readGiven_268 (fun r_85 u H locs h hw => ?_)
      obtain ⟨M_at_79, M_to_80, M_sort_81, M_worth_82, M_faultKind_83, M_faultPlace_84⟩ := u
      refine lv_if_eq (tgt := 284) hx hb d_M_readGiven_271 (by decide) (fun c_86 => ?_) (fun c_86 => ?_)
      · have h := h.1 c_86
        exact x_vret C0 hw (M_clauses, M_given, M_at_79, M_to_80, M_sort_81, M_worth_82, M_faultKind_83, M_faultPlace_84, M_plain, M_minus, M_block, M_left, M_right, M_pivot, M_live) h rfl d_M_readGiven_284
      · have h := h.2 c_86
        refine lv_aload_n hx hb d_M_readGiven_274 rfl (lv_at hl 0 rfl) ?_
        refine lv_iload_n hx hb d_M_readGiven_275 rfl (lv_at hl 2 rfl) ?_
        refine lv_iload_n hx hb d_M_readGiven_276 rfl (lv_at hl 3 rfl) ?_
        refine lv_iload_n hx hb d_M_readGiven_277 rfl (lv_at hl 1 rfl) ?_
        refine lv_iconst (v := 0) hx hb d_M_readGiven_278 (by decide) ?_
        refine lv_iconst (v := 0) hx hb d_M_readGiven_279 (by decide) ?_
        refine lv_iconst (v := 0) hx hb d_M_readGiven_280 (by decide) ?_
        refine x_callVv C0 hw hl (c_M_add h) g_M_add wm_859 ⟨wm_37, wm_861⟩ 0 rfl rfl rfl (As := [.int x2_71, .int x3_72, .int M_worth, .int (0 : Int32), .int (0 : Int32), .int (0 : Int32)]) (rest := []) rfl rfl (Nat.le_of_ble_eq_true rfl) ⟨rfl, rfl⟩ ⟨Nat.le_of_ble_eq_true rfl, Nat.le_of_ble_eq_true rfl⟩ ⟨Nat.le_of_ble_eq_true rfl, Nat.le_of_ble_eq_true rfl⟩ d_M_readGiven_281 (fun u H locs h hw => ?_)
        obtain ⟨M_clauses_87, M_given_88, M_plain_89, M_minus_90, M_block_91, M_left_92, M_right_93, M_pivot_94, M_live_95⟩ := u
        exact x_vret C0 hw (M_clauses_87, M_given_88, M_at_79, M_to_80, M_sort_81, M_worth_82, M_faultKind_83, M_faultPlace_84, M_plain_89, M_minus_90, M_block_91, M_left_92, M_right_93, M_pivot_94, M_live_95) h rfl d_M_readGiven_284
    · have h := h.2 c_33
      exact x_vret C0 hw (M_clauses, M_given, M_at_26, M_to_27, M_sort_28, M_worth_29, M_faultKind_30, M_faultPlace_31, M_plain, M_minus, M_block, M_left, M_right, M_pivot, M_live) h rfl d_M_readGiven_108
  · have h := h.2 c_20
    exact x_vret C0 hw (M_clauses, M_given, M_at, M_to, M_sort, M_worth, M_faultKind_17, M_faultPlace_18, M_plain, M_minus, M_block, M_left, M_right, M_pivot, M_live) h rfl d_M_readGiven_89
set_option maxHeartbeats 4000000 in
set_option maxRecDepth 100000 in
theorem b_M_readGiven_J81 {p : Program} {l : Launch} {e : Env} {s : State} {m : MethodId} {args : Array Value} {below : List Frame} {meth : Method} {c : Code} {D : va_G} {ca : Nat → ClassId} {tp : Nat} {A : Nat → Prop} {am : Nat → Nat} {M_end : Int32} {M_taped : Int32} {M_size : Int32} {M_isTold : Int32} {M_nodes : Int32} {M_needed : Nat → Int32} {M_label : Nat → Int32} {M_tape : Nat → Int32} {M_of : Nat → Int64} {M_kept : Nat → Int64} {M_had : Nat → Int32} {M_told : Nat → Int64} {M_first : Nat → Int64} {M_second : Nat → Int64} {M_node : Nat → Int64} {M_nodeVariable : Nat → Int32} {M_nodeLow : Nat → Int32} {M_nodeHigh : Nat → Int32} {M_wait : Nat → Int32}  {k : Int32 → Int32 → Int32 → Int32 → Int32 → Int32 → Int32 → Int32 → (Nat → Int32) → (Nat → Int32) → (Nat → Int32) → (Nat → Int32) → (Nat → Int32) → (Nat → Int32) → (Nat → Int32) → Prop}  (C0 : CX p s m args meth c b_M_readGiven 6 none R_M "readGiven" D ca tp A) :
    ∀ (M_clauses : Int32) (M_given : Int32) (M_at : Int32) (M_to : Int32) (M_sort : Int32) (M_worth : Int32) (M_faultKind : Int32) (M_faultPlace : Int32) (M_plain : Nat → Int32) (M_minus : Nat → Int32) (M_block : Nat → Int32) (M_left : Nat → Int32) (M_right : Nat → Int32) (M_pivot : Nat → Int32) (M_live : Nat → Int32) {H : Heap} {locs : List Loc} {ls : Array Slot}, p_M_readGiven_J81 M_size M_tape k M_clauses M_given M_at M_to M_sort M_worth M_faultKind M_faultPlace M_plain M_minus M_block M_left M_right M_pivot M_live → WH D A s (WM am ca M_clauses M_given M_end M_taped M_size M_at M_to M_sort M_worth M_faultKind M_faultPlace M_isTold M_nodes M_plain M_minus M_block M_left M_right M_pivot M_live M_needed M_label M_tape M_of M_kept M_had M_told M_first M_second M_node M_nodeVariable M_nodeLow M_nodeHigh M_wait) H locs → lv_has ls 6 [(0, .ref (am 0))] →
      W p l e rm_M_readGiven s m args below meth c H locs 0 0 (QV D A below args s (fun (u : Int32 × Int32 × Int32 × Int32 × Int32 × Int32 × Int32 × Int32 × (Nat → Int32) × (Nat → Int32) × (Nat → Int32) × (Nat → Int32) × (Nat → Int32) × (Nat → Int32) × (Nat → Int32)) => k u.1 u.2.1 u.2.2.1 u.2.2.2.1 u.2.2.2.2.1 u.2.2.2.2.2.1 u.2.2.2.2.2.2.1 u.2.2.2.2.2.2.2.1 u.2.2.2.2.2.2.2.2.1 u.2.2.2.2.2.2.2.2.2.1 u.2.2.2.2.2.2.2.2.2.2.1 u.2.2.2.2.2.2.2.2.2.2.2.1 u.2.2.2.2.2.2.2.2.2.2.2.2.1 u.2.2.2.2.2.2.2.2.2.2.2.2.2.1 u.2.2.2.2.2.2.2.2.2.2.2.2.2.2) (fun (u : Int32 × Int32 × Int32 × Int32 × Int32 × Int32 × Int32 × Int32 × (Nat → Int32) × (Nat → Int32) × (Nat → Int32) × (Nat → Int32) × (Nat → Int32) × (Nat → Int32) × (Nat → Int32)) => WM am ca u.1 u.2.1 M_end M_taped M_size u.2.2.1 u.2.2.2.1 u.2.2.2.2.1 u.2.2.2.2.2.1 u.2.2.2.2.2.2.1 u.2.2.2.2.2.2.2.1 M_isTold M_nodes u.2.2.2.2.2.2.2.2.1 u.2.2.2.2.2.2.2.2.2.1 u.2.2.2.2.2.2.2.2.2.2.1 u.2.2.2.2.2.2.2.2.2.2.2.1 u.2.2.2.2.2.2.2.2.2.2.2.2.1 u.2.2.2.2.2.2.2.2.2.2.2.2.2.1 u.2.2.2.2.2.2.2.2.2.2.2.2.2.2 M_needed M_label M_tape M_of M_kept M_had M_told M_first M_second M_node M_nodeVariable M_nodeLow M_nodeHigh M_wait) 0 0) (F0 m 81 ls [.ref (am 0)]) := by
  have hx := C0.1
  have hb := C0.2.1
  intro M_clauses M_given M_at M_to M_sort M_worth M_faultKind M_faultPlace M_plain M_minus M_block M_left M_right M_pivot M_live H locs ls h hw hl
  unfold p_M_readGiven_J81 at h
  refine lv_iconst (v := 0) hx hb d_M_readGiven_81 (by decide) ?_
  refine b_M_readGiven_J82 C0 _ _ _ _ _ _ _ _ _ _ _ _ _ _ _ _ h hw (lv_sub hl [0] rfl)
set_option maxHeartbeats 4000000 in
set_option maxRecDepth 100000 in
theorem b_M_readGiven_J52 {p : Program} {l : Launch} {e : Env} {s : State} {m : MethodId} {args : Array Value} {below : List Frame} {meth : Method} {c : Code} {D : va_G} {ca : Nat → ClassId} {tp : Nat} {A : Nat → Prop} {am : Nat → Nat} {M_end : Int32} {M_taped : Int32} {M_size : Int32} {M_isTold : Int32} {M_nodes : Int32} {M_needed : Nat → Int32} {M_label : Nat → Int32} {M_tape : Nat → Int32} {M_of : Nat → Int64} {M_kept : Nat → Int64} {M_had : Nat → Int32} {M_told : Nat → Int64} {M_first : Nat → Int64} {M_second : Nat → Int64} {M_node : Nat → Int64} {M_nodeVariable : Nat → Int32} {M_nodeLow : Nat → Int32} {M_nodeHigh : Nat → Int32} {M_wait : Nat → Int32}  {k : Int32 → Int32 → Int32 → Int32 → Int32 → Int32 → Int32 → Int32 → (Nat → Int32) → (Nat → Int32) → (Nat → Int32) → (Nat → Int32) → (Nat → Int32) → (Nat → Int32) → (Nat → Int32) → Prop}  (C0 : CX p s m args meth c b_M_readGiven 6 none R_M "readGiven" D ca tp A) :
    ∀ (t0 : Int32) (M_clauses : Int32) (M_given : Int32) (M_at : Int32) (M_to : Int32) (M_sort : Int32) (M_worth : Int32) (M_faultKind : Int32) (M_faultPlace : Int32) (M_plain : Nat → Int32) (M_minus : Nat → Int32) (M_block : Nat → Int32) (M_left : Nat → Int32) (M_right : Nat → Int32) (M_pivot : Nat → Int32) (M_live : Nat → Int32) {H : Heap} {locs : List Loc} {ls : Array Slot}, p_M_readGiven_J52 M_size M_tape k t0 M_clauses M_given M_at M_to M_sort M_worth M_faultKind M_faultPlace M_plain M_minus M_block M_left M_right M_pivot M_live → WH D A s (WM am ca M_clauses M_given M_end M_taped M_size M_at M_to M_sort M_worth M_faultKind M_faultPlace M_isTold M_nodes M_plain M_minus M_block M_left M_right M_pivot M_live M_needed M_label M_tape M_of M_kept M_had M_told M_first M_second M_node M_nodeVariable M_nodeLow M_nodeHigh M_wait) H locs → lv_has ls 6 [(0, .ref (am 0))] →
      W p l e rm_M_readGiven s m args below meth c H locs 0 0 (QV D A below args s (fun (u : Int32 × Int32 × Int32 × Int32 × Int32 × Int32 × Int32 × Int32 × (Nat → Int32) × (Nat → Int32) × (Nat → Int32) × (Nat → Int32) × (Nat → Int32) × (Nat → Int32) × (Nat → Int32)) => k u.1 u.2.1 u.2.2.1 u.2.2.2.1 u.2.2.2.2.1 u.2.2.2.2.2.1 u.2.2.2.2.2.2.1 u.2.2.2.2.2.2.2.1 u.2.2.2.2.2.2.2.2.1 u.2.2.2.2.2.2.2.2.2.1 u.2.2.2.2.2.2.2.2.2.2.1 u.2.2.2.2.2.2.2.2.2.2.2.1 u.2.2.2.2.2.2.2.2.2.2.2.2.1 u.2.2.2.2.2.2.2.2.2.2.2.2.2.1 u.2.2.2.2.2.2.2.2.2.2.2.2.2.2) (fun (u : Int32 × Int32 × Int32 × Int32 × Int32 × Int32 × Int32 × Int32 × (Nat → Int32) × (Nat → Int32) × (Nat → Int32) × (Nat → Int32) × (Nat → Int32) × (Nat → Int32) × (Nat → Int32)) => WM am ca u.1 u.2.1 M_end M_taped M_size u.2.2.1 u.2.2.2.1 u.2.2.2.2.1 u.2.2.2.2.2.1 u.2.2.2.2.2.2.1 u.2.2.2.2.2.2.2.1 M_isTold M_nodes u.2.2.2.2.2.2.2.2.1 u.2.2.2.2.2.2.2.2.2.1 u.2.2.2.2.2.2.2.2.2.2.1 u.2.2.2.2.2.2.2.2.2.2.2.1 u.2.2.2.2.2.2.2.2.2.2.2.2.1 u.2.2.2.2.2.2.2.2.2.2.2.2.2.1 u.2.2.2.2.2.2.2.2.2.2.2.2.2.2 M_needed M_label M_tape M_of M_kept M_had M_told M_first M_second M_node M_nodeVariable M_nodeLow M_nodeHigh M_wait) 0 0) (F0 m 52 ls [.int t0, .ref (am 0)]) := by
  have hx := C0.1
  have hb := C0.2.1
  intro t0 M_clauses M_given M_at M_to M_sort M_worth M_faultKind M_faultPlace M_plain M_minus M_block M_left M_right M_pivot M_live H locs ls h hw hl
  unfold p_M_readGiven_J52 at h
  refine lv_iconst (v := 1) hx hb d_M_readGiven_52 (by decide) ?_
  refine x_callVi C0 hw hl (c_M_need h) g_M_need wm_851 ⟨wm_35, wm_853⟩ 0 rfl rfl rfl (As := [.int t0, .int (1 : Int32)]) (rest := []) rfl rfl (Nat.le_of_ble_eq_true rfl) ⟨rfl, rfl⟩ ⟨Nat.le_of_ble_eq_true rfl, Nat.le_of_ble_eq_true rfl⟩ ⟨Nat.le_of_ble_eq_true rfl, Nat.le_of_ble_eq_true rfl⟩ d_M_readGiven_53 (fun r_14 u H locs h hw => ?_)
  obtain ⟨M_faultKind_12, M_faultPlace_13⟩ := u
  refine lv_if_eq (tgt := 89) hx hb d_M_readGiven_56 (by decide) (fun c_15 => ?_) (fun c_15 => ?_)
  · have h := h.1 c_15
    exact x_vret C0 hw (M_clauses, M_given, M_at, M_to, M_sort, M_worth, M_faultKind_12, M_faultPlace_13, M_plain, M_minus, M_block, M_left, M_right, M_pivot, M_live) h rfl d_M_readGiven_89
  · have h := h.2 c_15
    refine lv_aload_n hx hb d_M_readGiven_59 rfl (lv_at hl 0 rfl) ?_
    refine lv_aload_n hx hb d_M_readGiven_60 rfl (lv_at hl 0 rfl) ?_
    refine x_get C0 hw 0 rfl rfl i_M 18 (by decide) wm_743 rfl rfl d_M_readGiven_61 ?_
    refine lv_iconst (v := 1) hx hb d_M_readGiven_64 (by decide) ?_
    refine lv_icmp_lt (tgt := 81) hx hb d_M_readGiven_65 (by decide) (fun c_16 => ?_) (fun c_16 => ?_)
    · have h := h.1 c_16
      refine b_M_readGiven_J81 C0 _ _ _ _ _ _ _ _ _ _ _ _ _ _ _ h hw (lv_sub hl [0] rfl)
    · have h := h.2 c_16
      refine lv_aload_n hx hb d_M_readGiven_68 rfl (lv_at hl 0 rfl) ?_
      refine x_get C0 hw 0 rfl rfl i_M 18 (by decide) wm_743 rfl rfl d_M_readGiven_69 ?_
      refine lv_bipush (v := 8) hx hb d_M_readGiven_72 (by decide) ?_
      refine lv_icmp_gt (tgt := 81) hx hb d_M_readGiven_74 (by decide) (fun c_98 => ?_) (fun c_98 => ?_)
      · have h := h.1 c_98
        refine b_M_readGiven_J81 C0 _ _ _ _ _ _ _ _ _ _ _ _ _ _ _ h hw (lv_sub hl [0] rfl)
      · have h := h.2 c_98
        refine lv_iconst (v := 1) hx hb d_M_readGiven_77 (by decide) ?_
        refine lv_goto (tgt := 82) hx hb d_M_readGiven_78 (by decide) ?_
        refine b_M_readGiven_J82 C0 _ _ _ _ _ _ _ _ _ _ _ _ _ _ _ _ h hw (lv_sub hl [0] rfl)
set_option maxHeartbeats 4000000 in
set_option maxRecDepth 100000 in
theorem b_M_readGiven_J25 {p : Program} {l : Launch} {e : Env} {s : State} {m : MethodId} {args : Array Value} {below : List Frame} {meth : Method} {c : Code} {D : va_G} {ca : Nat → ClassId} {tp : Nat} {A : Nat → Prop} {am : Nat → Nat} {M_end : Int32} {M_taped : Int32} {M_size : Int32} {M_isTold : Int32} {M_nodes : Int32} {M_needed : Nat → Int32} {M_label : Nat → Int32} {M_tape : Nat → Int32} {M_of : Nat → Int64} {M_kept : Nat → Int64} {M_had : Nat → Int32} {M_told : Nat → Int64} {M_first : Nat → Int64} {M_second : Nat → Int64} {M_node : Nat → Int64} {M_nodeVariable : Nat → Int32} {M_nodeLow : Nat → Int32} {M_nodeHigh : Nat → Int32} {M_wait : Nat → Int32}  {k : Int32 → Int32 → Int32 → Int32 → Int32 → Int32 → Int32 → Int32 → (Nat → Int32) → (Nat → Int32) → (Nat → Int32) → (Nat → Int32) → (Nat → Int32) → (Nat → Int32) → (Nat → Int32) → Prop}  (C0 : CX p s m args meth c b_M_readGiven 6 none R_M "readGiven" D ca tp A) :
    ∀ (t0 : Int32) (M_clauses : Int32) (M_given : Int32) (M_at : Int32) (M_to : Int32) (M_sort : Int32) (M_worth : Int32) (M_faultKind : Int32) (M_faultPlace : Int32) (M_plain : Nat → Int32) (M_minus : Nat → Int32) (M_block : Nat → Int32) (M_left : Nat → Int32) (M_right : Nat → Int32) (M_pivot : Nat → Int32) (M_live : Nat → Int32) {H : Heap} {locs : List Loc} {ls : Array Slot}, p_M_readGiven_J25 M_size M_tape k t0 M_clauses M_given M_at M_to M_sort M_worth M_faultKind M_faultPlace M_plain M_minus M_block M_left M_right M_pivot M_live → WH D A s (WM am ca M_clauses M_given M_end M_taped M_size M_at M_to M_sort M_worth M_faultKind M_faultPlace M_isTold M_nodes M_plain M_minus M_block M_left M_right M_pivot M_live M_needed M_label M_tape M_of M_kept M_had M_told M_first M_second M_node M_nodeVariable M_nodeLow M_nodeHigh M_wait) H locs → lv_has ls 6 [(0, .ref (am 0))] →
      W p l e rm_M_readGiven s m args below meth c H locs 0 0 (QV D A below args s (fun (u : Int32 × Int32 × Int32 × Int32 × Int32 × Int32 × Int32 × Int32 × (Nat → Int32) × (Nat → Int32) × (Nat → Int32) × (Nat → Int32) × (Nat → Int32) × (Nat → Int32) × (Nat → Int32)) => k u.1 u.2.1 u.2.2.1 u.2.2.2.1 u.2.2.2.2.1 u.2.2.2.2.2.1 u.2.2.2.2.2.2.1 u.2.2.2.2.2.2.2.1 u.2.2.2.2.2.2.2.2.1 u.2.2.2.2.2.2.2.2.2.1 u.2.2.2.2.2.2.2.2.2.2.1 u.2.2.2.2.2.2.2.2.2.2.2.1 u.2.2.2.2.2.2.2.2.2.2.2.2.1 u.2.2.2.2.2.2.2.2.2.2.2.2.2.1 u.2.2.2.2.2.2.2.2.2.2.2.2.2.2) (fun (u : Int32 × Int32 × Int32 × Int32 × Int32 × Int32 × Int32 × Int32 × (Nat → Int32) × (Nat → Int32) × (Nat → Int32) × (Nat → Int32) × (Nat → Int32) × (Nat → Int32) × (Nat → Int32)) => WM am ca u.1 u.2.1 M_end M_taped M_size u.2.2.1 u.2.2.2.1 u.2.2.2.2.1 u.2.2.2.2.2.1 u.2.2.2.2.2.2.1 u.2.2.2.2.2.2.2.1 M_isTold M_nodes u.2.2.2.2.2.2.2.2.1 u.2.2.2.2.2.2.2.2.2.1 u.2.2.2.2.2.2.2.2.2.2.1 u.2.2.2.2.2.2.2.2.2.2.2.1 u.2.2.2.2.2.2.2.2.2.2.2.2.1 u.2.2.2.2.2.2.2.2.2.2.2.2.2.1 u.2.2.2.2.2.2.2.2.2.2.2.2.2.2 M_needed M_label M_tape M_of M_kept M_had M_told M_first M_second M_node M_nodeVariable M_nodeLow M_nodeHigh M_wait) 0 0) (F0 m 25 ls [.int t0, .ref (am 0)]) := by
  have hx := C0.1
  have hb := C0.2.1
  intro t0 M_clauses M_given M_at M_to M_sort M_worth M_faultKind M_faultPlace M_plain M_minus M_block M_left M_right M_pivot M_live H locs ls h hw hl
  unfold p_M_readGiven_J25 at h
  refine lv_bipush (v := 6) hx hb d_M_readGiven_25 (by decide) ?_
  refine x_callVi C0 hw hl (c_M_need h) g_M_need wm_851 ⟨wm_35, wm_853⟩ 0 rfl rfl rfl (As := [.int t0, .int (6 : Int32)]) (rest := []) rfl rfl (Nat.le_of_ble_eq_true rfl) ⟨rfl, rfl⟩ ⟨Nat.le_of_ble_eq_true rfl, Nat.le_of_ble_eq_true rfl⟩ ⟨Nat.le_of_ble_eq_true rfl, Nat.le_of_ble_eq_true rfl⟩ d_M_readGiven_27 (fun r_4 u H locs h hw => ?_)
  obtain ⟨M_faultKind_2, M_faultPlace_3⟩ := u
  refine lv_if_ne (tgt := 34) hx hb d_M_readGiven_30 (by decide) (fun c_5 => ?_) (fun c_5 => ?_)
  · have h := h.1 c_5
    refine lv_aload_n hx hb d_M_readGiven_34 rfl (lv_at hl 0 rfl) ?_
    refine x_callVv C0 hw hl (c_M_cut h) g_M_cut wm_840 ⟨wm_33, wm_842⟩ 0 rfl rfl rfl (As := []) (rest := []) rfl rfl (Nat.le_of_ble_eq_true rfl) ⟨rfl, rfl⟩ ⟨Nat.le_of_ble_eq_true rfl, Nat.le_of_ble_eq_true rfl⟩ ⟨Nat.le_of_ble_eq_true rfl, Nat.le_of_ble_eq_true rfl⟩ d_M_readGiven_35 (fun u H locs h hw => ?_)
    obtain ⟨M_at_6, M_to_7, M_sort_8, M_worth_9⟩ := u
    refine lv_aload_n hx hb d_M_readGiven_38 rfl (lv_at hl 0 rfl) ?_
    refine lv_aload_n hx hb d_M_readGiven_39 rfl (lv_at hl 0 rfl) ?_
    refine x_get C0 hw 0 rfl rfl i_M 17 (by decide) wm_742 rfl rfl d_M_readGiven_40 ?_
    refine lv_iconst (v := 1) hx hb d_M_readGiven_43 (by decide) ?_
    refine lv_icmp_ne (tgt := 51) hx hb d_M_readGiven_44 (by decide) (fun c_11 => ?_) (fun c_11 => ?_)
    · have h := h.1 c_11
      refine lv_iconst (v := 0) hx hb d_M_readGiven_51 (by decide) ?_
      refine b_M_readGiven_J52 C0 _ _ _ _ _ _ _ _ _ _ _ _ _ _ _ _ h hw (lv_sub hl [0] rfl)
    · have h := h.2 c_11
      refine lv_iconst (v := 1) hx hb d_M_readGiven_47 (by decide) ?_
      refine lv_goto (tgt := 52) hx hb d_M_readGiven_48 (by decide) ?_
      refine b_M_readGiven_J52 C0 _ _ _ _ _ _ _ _ _ _ _ _ _ _ _ _ h hw (lv_sub hl [0] rfl)
  · have h := h.2 c_5
    exact x_vret C0 hw (M_clauses, M_given, M_at, M_to, M_sort, M_worth, M_faultKind_2, M_faultPlace_3, M_plain, M_minus, M_block, M_left, M_right, M_pivot, M_live) h rfl d_M_readGiven_33
set_option maxHeartbeats 4000000 in
set_option maxRecDepth 100000 in
theorem b_M_readGiven_J24 {p : Program} {l : Launch} {e : Env} {s : State} {m : MethodId} {args : Array Value} {below : List Frame} {meth : Method} {c : Code} {D : va_G} {ca : Nat → ClassId} {tp : Nat} {A : Nat → Prop} {am : Nat → Nat} {M_end : Int32} {M_taped : Int32} {M_size : Int32} {M_isTold : Int32} {M_nodes : Int32} {M_needed : Nat → Int32} {M_label : Nat → Int32} {M_tape : Nat → Int32} {M_of : Nat → Int64} {M_kept : Nat → Int64} {M_had : Nat → Int32} {M_told : Nat → Int64} {M_first : Nat → Int64} {M_second : Nat → Int64} {M_node : Nat → Int64} {M_nodeVariable : Nat → Int32} {M_nodeLow : Nat → Int32} {M_nodeHigh : Nat → Int32} {M_wait : Nat → Int32}  {k : Int32 → Int32 → Int32 → Int32 → Int32 → Int32 → Int32 → Int32 → (Nat → Int32) → (Nat → Int32) → (Nat → Int32) → (Nat → Int32) → (Nat → Int32) → (Nat → Int32) → (Nat → Int32) → Prop}  (C0 : CX p s m args meth c b_M_readGiven 6 none R_M "readGiven" D ca tp A) :
    ∀ (M_clauses : Int32) (M_given : Int32) (M_at : Int32) (M_to : Int32) (M_sort : Int32) (M_worth : Int32) (M_faultKind : Int32) (M_faultPlace : Int32) (M_plain : Nat → Int32) (M_minus : Nat → Int32) (M_block : Nat → Int32) (M_left : Nat → Int32) (M_right : Nat → Int32) (M_pivot : Nat → Int32) (M_live : Nat → Int32) {H : Heap} {locs : List Loc} {ls : Array Slot}, p_M_readGiven_J24 M_size M_tape k M_clauses M_given M_at M_to M_sort M_worth M_faultKind M_faultPlace M_plain M_minus M_block M_left M_right M_pivot M_live → WH D A s (WM am ca M_clauses M_given M_end M_taped M_size M_at M_to M_sort M_worth M_faultKind M_faultPlace M_isTold M_nodes M_plain M_minus M_block M_left M_right M_pivot M_live M_needed M_label M_tape M_of M_kept M_had M_told M_first M_second M_node M_nodeVariable M_nodeLow M_nodeHigh M_wait) H locs → lv_has ls 6 [(0, .ref (am 0))] →
      W p l e rm_M_readGiven s m args below meth c H locs 0 0 (QV D A below args s (fun (u : Int32 × Int32 × Int32 × Int32 × Int32 × Int32 × Int32 × Int32 × (Nat → Int32) × (Nat → Int32) × (Nat → Int32) × (Nat → Int32) × (Nat → Int32) × (Nat → Int32) × (Nat → Int32)) => k u.1 u.2.1 u.2.2.1 u.2.2.2.1 u.2.2.2.2.1 u.2.2.2.2.2.1 u.2.2.2.2.2.2.1 u.2.2.2.2.2.2.2.1 u.2.2.2.2.2.2.2.2.1 u.2.2.2.2.2.2.2.2.2.1 u.2.2.2.2.2.2.2.2.2.2.1 u.2.2.2.2.2.2.2.2.2.2.2.1 u.2.2.2.2.2.2.2.2.2.2.2.2.1 u.2.2.2.2.2.2.2.2.2.2.2.2.2.1 u.2.2.2.2.2.2.2.2.2.2.2.2.2.2) (fun (u : Int32 × Int32 × Int32 × Int32 × Int32 × Int32 × Int32 × Int32 × (Nat → Int32) × (Nat → Int32) × (Nat → Int32) × (Nat → Int32) × (Nat → Int32) × (Nat → Int32) × (Nat → Int32)) => WM am ca u.1 u.2.1 M_end M_taped M_size u.2.2.1 u.2.2.2.1 u.2.2.2.2.1 u.2.2.2.2.2.1 u.2.2.2.2.2.2.1 u.2.2.2.2.2.2.2.1 M_isTold M_nodes u.2.2.2.2.2.2.2.2.1 u.2.2.2.2.2.2.2.2.2.1 u.2.2.2.2.2.2.2.2.2.2.1 u.2.2.2.2.2.2.2.2.2.2.2.1 u.2.2.2.2.2.2.2.2.2.2.2.2.1 u.2.2.2.2.2.2.2.2.2.2.2.2.2.1 u.2.2.2.2.2.2.2.2.2.2.2.2.2.2 M_needed M_label M_tape M_of M_kept M_had M_told M_first M_second M_node M_nodeVariable M_nodeLow M_nodeHigh M_wait) 0 0) (F0 m 24 ls [.ref (am 0)]) := by
  have hx := C0.1
  have hb := C0.2.1
  intro M_clauses M_given M_at M_to M_sort M_worth M_faultKind M_faultPlace M_plain M_minus M_block M_left M_right M_pivot M_live H locs ls h hw hl
  unfold p_M_readGiven_J24 at h
  refine lv_iconst (v := 0) hx hb d_M_readGiven_24 (by decide) ?_
  refine b_M_readGiven_J25 C0 _ _ _ _ _ _ _ _ _ _ _ _ _ _ _ _ h hw (lv_sub hl [0] rfl)
set_option maxHeartbeats 4000000 in
set_option maxRecDepth 100000 in
theorem c_M_readGiven {l : Launch} {D : va_G} {ca : Nat → ClassId} {tp : Nat} {am : Nat → Nat} {M_clauses : Int32} {M_given : Int32} {M_end : Int32} {M_taped : Int32} {M_size : Int32} {M_at : Int32} {M_to : Int32} {M_sort : Int32} {M_worth : Int32} {M_faultKind : Int32} {M_faultPlace : Int32} {M_isTold : Int32} {M_nodes : Int32} {M_plain : Nat → Int32} {M_minus : Nat → Int32} {M_block : Nat → Int32} {M_left : Nat → Int32} {M_right : Nat → Int32} {M_pivot : Nat → Int32} {M_live : Nat → Int32} {M_needed : Nat → Int32} {M_label : Nat → Int32} {M_tape : Nat → Int32} {M_of : Nat → Int64} {M_kept : Nat → Int64} {M_had : Nat → Int32} {M_told : Nat → Int64} {M_first : Nat → Int64} {M_second : Nat → Int64} {M_node : Nat → Int64} {M_nodeVariable : Nat → Int32} {M_nodeLow : Nat → Int32} {M_nodeHigh : Nat → Int32} {M_wait : Nat → Int32}  {k : Int32 → Int32 → Int32 → Int32 → Int32 → Int32 → Int32 → Int32 → (Nat → Int32) → (Nat → Int32) → (Nat → Int32) → (Nat → Int32) → (Nat → Int32) → (Nat → Int32) → (Nat → Int32) → Prop} (h : p_M_readGiven M_clauses M_given M_size M_at M_to M_sort M_worth M_faultKind M_faultPlace M_plain M_minus M_block M_left M_right M_pivot M_live M_tape k) :
    MTv l y_M_readGiven b_M_readGiven 6 none rm_M_readGiven D ca tp [.ref (am 0)] (WM am ca M_clauses M_given M_end M_taped M_size M_at M_to M_sort M_worth M_faultKind M_faultPlace M_isTold M_nodes M_plain M_minus M_block M_left M_right M_pivot M_live M_needed M_label M_tape M_of M_kept M_had M_told M_first M_second M_node M_nodeVariable M_nodeLow M_nodeHigh M_wait)
      (fun (u : Int32 × Int32 × Int32 × Int32 × Int32 × Int32 × Int32 × Int32 × (Nat → Int32) × (Nat → Int32) × (Nat → Int32) × (Nat → Int32) × (Nat → Int32) × (Nat → Int32) × (Nat → Int32)) => k u.1 u.2.1 u.2.2.1 u.2.2.2.1 u.2.2.2.2.1 u.2.2.2.2.2.1 u.2.2.2.2.2.2.1 u.2.2.2.2.2.2.2.1 u.2.2.2.2.2.2.2.2.1 u.2.2.2.2.2.2.2.2.2.1 u.2.2.2.2.2.2.2.2.2.2.1 u.2.2.2.2.2.2.2.2.2.2.2.1 u.2.2.2.2.2.2.2.2.2.2.2.2.1 u.2.2.2.2.2.2.2.2.2.2.2.2.2.1 u.2.2.2.2.2.2.2.2.2.2.2.2.2.2)
      (fun (u : Int32 × Int32 × Int32 × Int32 × Int32 × Int32 × Int32 × Int32 × (Nat → Int32) × (Nat → Int32) × (Nat → Int32) × (Nat → Int32) × (Nat → Int32) × (Nat → Int32) × (Nat → Int32)) => WM am ca u.1 u.2.1 M_end M_taped M_size u.2.2.1 u.2.2.2.1 u.2.2.2.2.1 u.2.2.2.2.2.1 u.2.2.2.2.2.2.1 u.2.2.2.2.2.2.2.1 M_isTold M_nodes u.2.2.2.2.2.2.2.2.1 u.2.2.2.2.2.2.2.2.2.1 u.2.2.2.2.2.2.2.2.2.2.1 u.2.2.2.2.2.2.2.2.2.2.2.1 u.2.2.2.2.2.2.2.2.2.2.2.2.1 u.2.2.2.2.2.2.2.2.2.2.2.2.2.1 u.2.2.2.2.2.2.2.2.2.2.2.2.2.2 M_needed M_label M_tape M_of M_kept M_had M_told M_first M_second M_node M_nodeVariable M_nodeLow M_nodeHigh M_wait) 0 0 := by
  refine x_entryv (own := R_M) (nm := "readGiven") (by decide) rfl rfl (Nat.le_of_ble_eq_true rfl) (fun p e s m below meth c A ls C0 hw hl => ?_)
  have hx := C0.1
  have hb := C0.2.1
  have hl : lv_has ls 6 [(0, .ref (am 0))] := hl
  unfold p_M_readGiven at h
  refine lv_aload_n hx hb d_M_readGiven_0 rfl (lv_at hl 0 rfl) ?_
  refine lv_aload_n hx hb d_M_readGiven_1 rfl (lv_at hl 0 rfl) ?_
  refine x_get C0 hw 0 rfl rfl i_M 9 (by decide) wm_734 rfl rfl d_M_readGiven_2 ?_
  refine lv_bipush (v := 60) hx hb d_M_readGiven_5 (by decide) ?_
  refine lv_icmp_ge (tgt := 24) hx hb d_M_readGiven_7 (by decide) (fun c_1 => ?_) (fun c_1 => ?_)
  · have h := h.1 c_1
    refine b_M_readGiven_J24 C0 _ _ _ _ _ _ _ _ _ _ _ _ _ _ _ h hw (lv_sub hl [0] rfl)
  · have h := h.2 c_1
    refine lv_aload_n hx hb d_M_readGiven_10 rfl (lv_at hl 0 rfl) ?_
    refine x_get C0 hw 0 rfl rfl i_M 8 (by decide) wm_733 rfl rfl d_M_readGiven_11 ?_
    refine lv_sipush (v := 200) hx hb d_M_readGiven_14 (by decide) ?_
    refine lv_icmp_ge (tgt := 24) hx hb d_M_readGiven_17 (by decide) (fun c_99 => ?_) (fun c_99 => ?_)
    · have h := h.1 c_99
      refine b_M_readGiven_J24 C0 _ _ _ _ _ _ _ _ _ _ _ _ _ _ _ h hw (lv_sub hl [0] rfl)
    · have h := h.2 c_99
      refine lv_iconst (v := 1) hx hb d_M_readGiven_20 (by decide) ?_
      refine lv_goto (tgt := 25) hx hb d_M_readGiven_21 (by decide) ?_
      refine b_M_readGiven_J25 C0 _ _ _ _ _ _ _ _ _ _ _ _ _ _ _ _ h hw (lv_sub hl [0] rfl)
theorem g_M_clauseHere : GY y_M_clauseHere b_M_clauseHere 2 (some .int) 0 := ⟨wm_870, wm_62, by decide +kernel, by decide +kernel, by decide +kernel⟩
def p_M_clauseHere_J14 (M_clauses : Int32) (M_size : Int32) (M_tape : Nat → Int32) (k : Int32 → Int32 → Int32 → Int32 → Int32 → Int32 → Int32 → Prop) (t0 : Int32) (M_at : Int32) (M_to : Int32) (M_sort : Int32) (M_worth : Int32) (M_faultKind : Int32) (M_faultPlace : Int32) : Prop :=
  (p_M_need M_at M_faultKind M_faultPlace t0 (1 : Int32) (fun (r_4 : Int32) (M_faultKind_2 : Int32) (M_faultPlace_3 : Int32) => ((r_4 = 0 → (k (0 : Int32) M_at M_to M_sort M_worth M_faultKind_2 M_faultPlace_3)) ∧ (¬ r_4 = 0 → ((M_worth < (1 : Int32) → (p_M_need M_at M_faultKind_2 M_faultPlace_3 (0 : Int32) (2 : Int32) (fun (r_9 : Int32) (M_faultKind_7 : Int32) (M_faultPlace_8 : Int32) => ((¬ r_9 = 0 → (p_M_cut M_size M_at M_to M_sort M_worth M_tape (fun (M_at_11 : Int32) (M_to_12 : Int32) (M_sort_13 : Int32) (M_worth_14 : Int32) => (k M_worth M_at_11 M_to_12 M_sort_13 M_worth_14 M_faultKind_7 M_faultPlace_8)))) ∧ (r_9 = 0 → (k (0 : Int32) M_at M_to M_sort M_worth M_faultKind_7 M_faultPlace_8)))))) ∧ (¬ M_worth < (1 : Int32) → ((M_clauses < M_worth → (p_M_need M_at M_faultKind_2 M_faultPlace_3 (0 : Int32) (2 : Int32) (fun (r_19 : Int32) (M_faultKind_17 : Int32) (M_faultPlace_18 : Int32) => ((¬ r_19 = 0 → (p_M_cut M_size M_at M_to M_sort M_worth M_tape (fun (M_at_21 : Int32) (M_to_22 : Int32) (M_sort_23 : Int32) (M_worth_24 : Int32) => (k M_worth M_at_21 M_to_22 M_sort_23 M_worth_24 M_faultKind_17 M_faultPlace_18)))) ∧ (r_19 = 0 → (k (0 : Int32) M_at M_to M_sort M_worth M_faultKind_17 M_faultPlace_18)))))) ∧ (¬ M_clauses < M_worth → (p_M_need M_at M_faultKind_2 M_faultPlace_3 (1 : Int32) (2 : Int32) (fun (r_28 : Int32) (M_faultKind_26 : Int32) (M_faultPlace_27 : Int32) => ((¬ r_28 = 0 → (p_M_cut M_size M_at M_to M_sort M_worth M_tape (fun (M_at_30 : Int32) (M_to_31 : Int32) (M_sort_32 : Int32) (M_worth_33 : Int32) => (k M_worth M_at_30 M_to_31 M_sort_32 M_worth_33 M_faultKind_26 M_faultPlace_27)))) ∧ (r_28 = 0 → (k (0 : Int32) M_at M_to M_sort M_worth M_faultKind_26 M_faultPlace_27)))))))))))))
def p_M_clauseHere (M_clauses : Int32) (M_size : Int32) (M_at : Int32) (M_to : Int32) (M_sort : Int32) (M_worth : Int32) (M_faultKind : Int32) (M_faultPlace : Int32) (M_tape : Nat → Int32) (k : Int32 → Int32 → Int32 → Int32 → Int32 → Int32 → Int32 → Prop) : Prop :=
  ((¬ M_sort = (1 : Int32) → (p_M_clauseHere_J14 M_clauses M_size M_tape k (0 : Int32) M_at M_to M_sort M_worth M_faultKind M_faultPlace)) ∧ (M_sort = (1 : Int32) → (p_M_clauseHere_J14 M_clauses M_size M_tape k (1 : Int32) M_at M_to M_sort M_worth M_faultKind M_faultPlace)))
abbrev rm_M_clauseHere : Room := { frames := 2, cells := 0, slots := 0, locals := 43 }
set_option maxHeartbeats 4000000 in
set_option maxRecDepth 100000 in
theorem b_M_clauseHere_J14 {p : Program} {l : Launch} {e : Env} {s : State} {m : MethodId} {args : Array Value} {below : List Frame} {meth : Method} {c : Code} {D : va_G} {ca : Nat → ClassId} {tp : Nat} {A : Nat → Prop} {am : Nat → Nat} {M_clauses : Int32} {M_given : Int32} {M_end : Int32} {M_taped : Int32} {M_size : Int32} {M_isTold : Int32} {M_nodes : Int32} {M_plain : Nat → Int32} {M_minus : Nat → Int32} {M_block : Nat → Int32} {M_left : Nat → Int32} {M_right : Nat → Int32} {M_pivot : Nat → Int32} {M_live : Nat → Int32} {M_needed : Nat → Int32} {M_label : Nat → Int32} {M_tape : Nat → Int32} {M_of : Nat → Int64} {M_kept : Nat → Int64} {M_had : Nat → Int32} {M_told : Nat → Int64} {M_first : Nat → Int64} {M_second : Nat → Int64} {M_node : Nat → Int64} {M_nodeVariable : Nat → Int32} {M_nodeLow : Nat → Int32} {M_nodeHigh : Nat → Int32} {M_wait : Nat → Int32}  {k : Int32 → Int32 → Int32 → Int32 → Int32 → Int32 → Int32 → Prop}  (C0 : CX p s m args meth c b_M_clauseHere 2 (some .int) R_M "clauseHere" D ca tp A) :
    ∀ (t0 : Int32) (M_at : Int32) (M_to : Int32) (M_sort : Int32) (M_worth : Int32) (M_faultKind : Int32) (M_faultPlace : Int32) {H : Heap} {locs : List Loc} {ls : Array Slot}, p_M_clauseHere_J14 M_clauses M_size M_tape k t0 M_at M_to M_sort M_worth M_faultKind M_faultPlace → WH D A s (WM am ca M_clauses M_given M_end M_taped M_size M_at M_to M_sort M_worth M_faultKind M_faultPlace M_isTold M_nodes M_plain M_minus M_block M_left M_right M_pivot M_live M_needed M_label M_tape M_of M_kept M_had M_told M_first M_second M_node M_nodeVariable M_nodeLow M_nodeHigh M_wait) H locs → lv_has ls 2 [(0, .ref (am 0))] →
      W p l e rm_M_clauseHere s m args below meth c H locs 0 0 (QI D A below args s (fun r (u : Int32 × Int32 × Int32 × Int32 × Int32 × Int32) => k r u.1 u.2.1 u.2.2.1 u.2.2.2.1 u.2.2.2.2.1 u.2.2.2.2.2) (fun (u : Int32 × Int32 × Int32 × Int32 × Int32 × Int32) => WM am ca M_clauses M_given M_end M_taped M_size u.1 u.2.1 u.2.2.1 u.2.2.2.1 u.2.2.2.2.1 u.2.2.2.2.2 M_isTold M_nodes M_plain M_minus M_block M_left M_right M_pivot M_live M_needed M_label M_tape M_of M_kept M_had M_told M_first M_second M_node M_nodeVariable M_nodeLow M_nodeHigh M_wait) 0 0) (F0 m 14 ls [.int t0, .ref (am 0)]) := by
  have hx := C0.1
  have hb := C0.2.1
  intro t0 M_at M_to M_sort M_worth M_faultKind M_faultPlace H locs ls h hw hl
  unfold p_M_clauseHere_J14 at h
  refine lv_iconst (v := 1) hx hb d_M_clauseHere_14 (by decide) ?_
  refine x_callVi C0 hw hl (c_M_need h) g_M_need wm_851 ⟨wm_35, wm_853⟩ 0 rfl rfl rfl (As := [.int t0, .int (1 : Int32)]) (rest := []) rfl rfl (Nat.le_of_ble_eq_true rfl) ⟨rfl, rfl⟩ ⟨Nat.le_of_ble_eq_true rfl, Nat.le_of_ble_eq_true rfl⟩ ⟨Nat.le_of_ble_eq_true rfl, Nat.le_of_ble_eq_true rfl⟩ d_M_clauseHere_15 (fun r_4 u H locs h hw => ?_)
  obtain ⟨M_faultKind_2, M_faultPlace_3⟩ := u
  refine lv_if_eq (tgt := 53) hx hb d_M_clauseHere_18 (by decide) (fun c_5 => ?_) (fun c_5 => ?_)
  · have h := h.1 c_5
    refine lv_iconst (v := 0) hx hb d_M_clauseHere_53 (by decide) ?_
    exact x_iret C0 hw (M_at, M_to, M_sort, M_worth, M_faultKind_2, M_faultPlace_3) h rfl d_M_clauseHere_54
  · have h := h.2 c_5
    refine lv_aload_n hx hb d_M_clauseHere_21 rfl (lv_at hl 0 rfl) ?_
    refine lv_aload_n hx hb d_M_clauseHere_22 rfl (lv_at hl 0 rfl) ?_
    refine x_get C0 hw 0 rfl rfl i_M 18 (by decide) wm_743 rfl rfl d_M_clauseHere_23 ?_
    refine lv_iconst (v := 1) hx hb d_M_clauseHere_26 (by decide) ?_
    refine lv_icmp_lt (tgt := 45) hx hb d_M_clauseHere_27 (by decide) (fun c_6 => ?_) (fun c_6 => ?_)
    · have h := h.1 c_6
      refine lv_iconst (v := 0) hx hb d_M_clauseHere_45 (by decide) ?_
      refine lv_iconst (v := 2) hx hb d_M_clauseHere_46 (by decide) ?_
      refine x_callVi C0 hw hl (c_M_need h) g_M_need wm_851 ⟨wm_35, wm_853⟩ 0 rfl rfl rfl (As := [.int (0 : Int32), .int (2 : Int32)]) (rest := []) rfl rfl (Nat.le_of_ble_eq_true rfl) ⟨rfl, rfl⟩ ⟨Nat.le_of_ble_eq_true rfl, Nat.le_of_ble_eq_true rfl⟩ ⟨Nat.le_of_ble_eq_true rfl, Nat.le_of_ble_eq_true rfl⟩ d_M_clauseHere_47 (fun r_9 u H locs h hw => ?_)
      obtain ⟨M_faultKind_7, M_faultPlace_8⟩ := u
      refine lv_if_ne (tgt := 55) hx hb d_M_clauseHere_50 (by decide) (fun c_10 => ?_) (fun c_10 => ?_)
      · have h := h.1 c_10
        refine lv_aload_n hx hb d_M_clauseHere_55 rfl (lv_at hl 0 rfl) ?_
        refine x_get C0 hw 0 rfl rfl i_M 18 (by decide) wm_743 rfl rfl d_M_clauseHere_56 ?_
        refine lv_istore_n (lv' := [(1, .int M_worth), (0, .ref (am 0))]) hx hb d_M_clauseHere_59 rfl hl (by decide) rfl (fun ls hl => ?_)
        refine lv_aload_n hx hb d_M_clauseHere_60 rfl (lv_at hl 1 rfl) ?_
        refine x_callVv C0 hw hl (c_M_cut h) g_M_cut wm_840 ⟨wm_33, wm_842⟩ 0 rfl rfl rfl (As := []) (rest := []) rfl rfl (Nat.le_of_ble_eq_true rfl) ⟨rfl, rfl⟩ ⟨Nat.le_of_ble_eq_true rfl, Nat.le_of_ble_eq_true rfl⟩ ⟨Nat.le_of_ble_eq_true rfl, Nat.le_of_ble_eq_true rfl⟩ d_M_clauseHere_61 (fun u H locs h hw => ?_)
        obtain ⟨M_at_11, M_to_12, M_sort_13, M_worth_14⟩ := u
        refine lv_iload_n hx hb d_M_clauseHere_64 rfl (lv_at hl 0 rfl) ?_
        exact x_iret C0 hw (M_at_11, M_to_12, M_sort_13, M_worth_14, M_faultKind_7, M_faultPlace_8) h rfl d_M_clauseHere_65
      · have h := h.2 c_10
        refine lv_iconst (v := 0) hx hb d_M_clauseHere_53 (by decide) ?_
        exact x_iret C0 hw (M_at, M_to, M_sort, M_worth, M_faultKind_7, M_faultPlace_8) h rfl d_M_clauseHere_54
    · have h := h.2 c_6
      refine lv_aload_n hx hb d_M_clauseHere_30 rfl (lv_at hl 0 rfl) ?_
      refine x_get C0 hw 0 rfl rfl i_M 18 (by decide) wm_743 rfl rfl d_M_clauseHere_31 ?_
      refine lv_aload_n hx hb d_M_clauseHere_34 rfl (lv_at hl 0 rfl) ?_
      refine x_get C0 hw 0 rfl rfl i_M 8 (by decide) wm_733 rfl rfl d_M_clauseHere_35 ?_
      refine lv_icmp_gt (tgt := 45) hx hb d_M_clauseHere_38 (by decide) (fun c_16 => ?_) (fun c_16 => ?_)
      · have h := h.1 c_16
        refine lv_iconst (v := 0) hx hb d_M_clauseHere_45 (by decide) ?_
        refine lv_iconst (v := 2) hx hb d_M_clauseHere_46 (by decide) ?_
        refine x_callVi C0 hw hl (c_M_need h) g_M_need wm_851 ⟨wm_35, wm_853⟩ 0 rfl rfl rfl (As := [.int (0 : Int32), .int (2 : Int32)]) (rest := []) rfl rfl (Nat.le_of_ble_eq_true rfl) ⟨rfl, rfl⟩ ⟨Nat.le_of_ble_eq_true rfl, Nat.le_of_ble_eq_true rfl⟩ ⟨Nat.le_of_ble_eq_true rfl, Nat.le_of_ble_eq_true rfl⟩ d_M_clauseHere_47 (fun r_19 u H locs h hw => ?_)
        obtain ⟨M_faultKind_17, M_faultPlace_18⟩ := u
        refine lv_if_ne (tgt := 55) hx hb d_M_clauseHere_50 (by decide) (fun c_20 => ?_) (fun c_20 => ?_)
        · have h := h.1 c_20
          refine lv_aload_n hx hb d_M_clauseHere_55 rfl (lv_at hl 0 rfl) ?_
          refine x_get C0 hw 0 rfl rfl i_M 18 (by decide) wm_743 rfl rfl d_M_clauseHere_56 ?_
          refine lv_istore_n (lv' := [(1, .int M_worth), (0, .ref (am 0))]) hx hb d_M_clauseHere_59 rfl hl (by decide) rfl (fun ls hl => ?_)
          refine lv_aload_n hx hb d_M_clauseHere_60 rfl (lv_at hl 1 rfl) ?_
          refine x_callVv C0 hw hl (c_M_cut h) g_M_cut wm_840 ⟨wm_33, wm_842⟩ 0 rfl rfl rfl (As := []) (rest := []) rfl rfl (Nat.le_of_ble_eq_true rfl) ⟨rfl, rfl⟩ ⟨Nat.le_of_ble_eq_true rfl, Nat.le_of_ble_eq_true rfl⟩ ⟨Nat.le_of_ble_eq_true rfl, Nat.le_of_ble_eq_true rfl⟩ d_M_clauseHere_61 (fun u H locs h hw => ?_)
          obtain ⟨M_at_21, M_to_22, M_sort_23, M_worth_24⟩ := u
          refine lv_iload_n hx hb d_M_clauseHere_64 rfl (lv_at hl 0 rfl) ?_
          exact x_iret C0 hw (M_at_21, M_to_22, M_sort_23, M_worth_24, M_faultKind_17, M_faultPlace_18) h rfl d_M_clauseHere_65
        · have h := h.2 c_20
          refine lv_iconst (v := 0) hx hb d_M_clauseHere_53 (by decide) ?_
          exact x_iret C0 hw (M_at, M_to, M_sort, M_worth, M_faultKind_17, M_faultPlace_18) h rfl d_M_clauseHere_54
      · have h := h.2 c_16
        refine lv_iconst (v := 1) hx hb d_M_clauseHere_41 (by decide) ?_
        refine lv_goto (tgt := 46) hx hb d_M_clauseHere_42 (by decide) ?_
        refine lv_iconst (v := 2) hx hb d_M_clauseHere_46 (by decide) ?_
        refine x_callVi C0 hw hl (c_M_need h) g_M_need wm_851 ⟨wm_35, wm_853⟩ 0 rfl rfl rfl (As := [.int (1 : Int32), .int (2 : Int32)]) (rest := []) rfl rfl (Nat.le_of_ble_eq_true rfl) ⟨rfl, rfl⟩ ⟨Nat.le_of_ble_eq_true rfl, Nat.le_of_ble_eq_true rfl⟩ ⟨Nat.le_of_ble_eq_true rfl, Nat.le_of_ble_eq_true rfl⟩ d_M_clauseHere_47 (fun r_28 u H locs h hw => ?_)
        obtain ⟨M_faultKind_26, M_faultPlace_27⟩ := u
        refine lv_if_ne (tgt := 55) hx hb d_M_clauseHere_50 (by decide) (fun c_29 => ?_) (fun c_29 => ?_)
        · have h := h.1 c_29
          refine lv_aload_n hx hb d_M_clauseHere_55 rfl (lv_at hl 0 rfl) ?_
          refine x_get C0 hw 0 rfl rfl i_M 18 (by decide) wm_743 rfl rfl d_M_clauseHere_56 ?_
          refine lv_istore_n (lv' := [(1, .int M_worth), (0, .ref (am 0))]) hx hb d_M_clauseHere_59 rfl hl (by decide) rfl (fun ls hl => ?_)
          refine lv_aload_n hx hb d_M_clauseHere_60 rfl (lv_at hl 1 rfl) ?_
          refine x_callVv C0 hw hl (c_M_cut h) g_M_cut wm_840 ⟨wm_33, wm_842⟩ 0 rfl rfl rfl (As := []) (rest := []) rfl rfl (Nat.le_of_ble_eq_true rfl) ⟨rfl, rfl⟩ ⟨Nat.le_of_ble_eq_true rfl, Nat.le_of_ble_eq_true rfl⟩ ⟨Nat.le_of_ble_eq_true rfl, Nat.le_of_ble_eq_true rfl⟩ d_M_clauseHere_61 (fun u H locs h hw => ?_)
          obtain ⟨M_at_30, M_to_31, M_sort_32, M_worth_33⟩ := u
          refine lv_iload_n hx hb d_M_clauseHere_64 rfl (lv_at hl 0 rfl) ?_
          exact x_iret C0 hw (M_at_30, M_to_31, M_sort_32, M_worth_33, M_faultKind_26, M_faultPlace_27) h rfl d_M_clauseHere_65
        · have h := h.2 c_29
          refine lv_iconst (v := 0) hx hb d_M_clauseHere_53 (by decide) ?_
          exact x_iret C0 hw (M_at, M_to, M_sort, M_worth, M_faultKind_26, M_faultPlace_27) h rfl d_M_clauseHere_54
set_option maxHeartbeats 4000000 in
set_option maxRecDepth 100000 in
theorem c_M_clauseHere {l : Launch} {D : va_G} {ca : Nat → ClassId} {tp : Nat} {am : Nat → Nat} {M_clauses : Int32} {M_given : Int32} {M_end : Int32} {M_taped : Int32} {M_size : Int32} {M_at : Int32} {M_to : Int32} {M_sort : Int32} {M_worth : Int32} {M_faultKind : Int32} {M_faultPlace : Int32} {M_isTold : Int32} {M_nodes : Int32} {M_plain : Nat → Int32} {M_minus : Nat → Int32} {M_block : Nat → Int32} {M_left : Nat → Int32} {M_right : Nat → Int32} {M_pivot : Nat → Int32} {M_live : Nat → Int32} {M_needed : Nat → Int32} {M_label : Nat → Int32} {M_tape : Nat → Int32} {M_of : Nat → Int64} {M_kept : Nat → Int64} {M_had : Nat → Int32} {M_told : Nat → Int64} {M_first : Nat → Int64} {M_second : Nat → Int64} {M_node : Nat → Int64} {M_nodeVariable : Nat → Int32} {M_nodeLow : Nat → Int32} {M_nodeHigh : Nat → Int32} {M_wait : Nat → Int32}  {k : Int32 → Int32 → Int32 → Int32 → Int32 → Int32 → Int32 → Prop} (h : p_M_clauseHere M_clauses M_size M_at M_to M_sort M_worth M_faultKind M_faultPlace M_tape k) :
    MTi l y_M_clauseHere b_M_clauseHere 2 (some .int) rm_M_clauseHere D ca tp [.ref (am 0)] (WM am ca M_clauses M_given M_end M_taped M_size M_at M_to M_sort M_worth M_faultKind M_faultPlace M_isTold M_nodes M_plain M_minus M_block M_left M_right M_pivot M_live M_needed M_label M_tape M_of M_kept M_had M_told M_first M_second M_node M_nodeVariable M_nodeLow M_nodeHigh M_wait)
      (fun r (u : Int32 × Int32 × Int32 × Int32 × Int32 × Int32) => k r u.1 u.2.1 u.2.2.1 u.2.2.2.1 u.2.2.2.2.1 u.2.2.2.2.2)
      (fun (u : Int32 × Int32 × Int32 × Int32 × Int32 × Int32) => WM am ca M_clauses M_given M_end M_taped M_size u.1 u.2.1 u.2.2.1 u.2.2.2.1 u.2.2.2.2.1 u.2.2.2.2.2 M_isTold M_nodes M_plain M_minus M_block M_left M_right M_pivot M_live M_needed M_label M_tape M_of M_kept M_had M_told M_first M_second M_node M_nodeVariable M_nodeLow M_nodeHigh M_wait) 0 0 := by
  refine x_entryi (own := R_M) (nm := "clauseHere") (by decide) rfl rfl (Nat.le_of_ble_eq_true rfl) (fun p e s m below meth c A ls C0 hw hl => ?_)
  have hx := C0.1
  have hb := C0.2.1
  have hl : lv_has ls 2 [(0, .ref (am 0))] := hl
  unfold p_M_clauseHere at h
  refine lv_aload_n hx hb d_M_clauseHere_0 rfl (lv_at hl 0 rfl) ?_
  refine lv_aload_n hx hb d_M_clauseHere_1 rfl (lv_at hl 0 rfl) ?_
  refine x_get C0 hw 0 rfl rfl i_M 17 (by decide) wm_742 rfl rfl d_M_clauseHere_2 ?_
  refine lv_iconst (v := 1) hx hb d_M_clauseHere_5 (by decide) ?_
  refine lv_icmp_ne (tgt := 13) hx hb d_M_clauseHere_6 (by decide) (fun c_1 => ?_) (fun c_1 => ?_)
  · have h := h.1 c_1
    refine lv_iconst (v := 0) hx hb d_M_clauseHere_13 (by decide) ?_
    refine b_M_clauseHere_J14 C0 _ _ _ _ _ _ _ h hw (lv_sub hl [0] rfl)
  · have h := h.2 c_1
    refine lv_iconst (v := 1) hx hb d_M_clauseHere_9 (by decide) ?_
    refine lv_goto (tgt := 14) hx hb d_M_clauseHere_10 (by decide) ?_
    refine b_M_clauseHere_J14 C0 _ _ _ _ _ _ _ h hw (lv_sub hl [0] rfl)
theorem g_M_readResolvent : GY y_M_readResolvent b_M_readResolvent 7 none 0 := ⟨wm_866, wm_62, by decide +kernel, by decide +kernel, by decide +kernel⟩
def p_M_readResolvent_J204 (M_size : Int32) (M_tape : Nat → Int32) (k : Int32 → Int32 → Int32 → Int32 → Int32 → Int32 → Int32 → Int32 → (Nat → Int32) → (Nat → Int32) → (Nat → Int32) → (Nat → Int32) → (Nat → Int32) → (Nat → Int32) → (Nat → Int32) → Prop) (x1 : Int32) (x2 : Int32) (x4 : Int32) (x5 : Int32) (t0 : Int32) (M_clauses : Int32) (M_given : Int32) (M_at : Int32) (M_to : Int32) (M_sort : Int32) (M_worth : Int32) (M_faultKind : Int32) (M_faultPlace : Int32) (M_plain : Nat → Int32) (M_minus : Nat → Int32) (M_block : Nat → Int32) (M_left : Nat → Int32) (M_right : Nat → Int32) (M_pivot : Nat → Int32) (M_live : Nat → Int32) : Prop :=
  (p_M_need M_at M_faultKind M_faultPlace t0 (5 : Int32) (fun (r_51 : Int32) (M_faultKind_49 : Int32) (M_faultPlace_50 : Int32) => ((¬ r_51 = 0 → (p_M_cut M_size M_at M_to M_sort M_worth M_tape (fun (M_at_53 : Int32) (M_to_54 : Int32) (M_sort_55 : Int32) (M_worth_56 : Int32) => (p_M_takes M_size M_at_53 M_to_54 M_sort_55 M_worth_56 M_faultKind_49 M_faultPlace_50 M_tape (59 : Int32) (fun (r_64 : Int32) (M_at_58 : Int32) (M_to_59 : Int32) (M_sort_60 : Int32) (M_worth_61 : Int32) (M_faultKind_62 : Int32) (M_faultPlace_63 : Int32) => ((r_64 = 0 → (k M_clauses M_given M_at_58 M_to_59 M_sort_60 M_worth_61 M_faultKind_62 M_faultPlace_63 M_plain M_minus M_block M_left M_right M_pivot M_live)) ∧ (¬ r_64 = 0 → (p_M_add M_clauses M_given M_plain M_minus M_block M_left M_right M_pivot M_live x4 x5 (0 : Int32) x1 x2 M_worth (fun (M_clauses_66 : Int32) (M_given_67 : Int32) (M_plain_68 : Nat → Int32) (M_minus_69 : Nat → Int32) (M_block_70 : Nat → Int32) (M_left_71 : Nat → Int32) (M_right_72 : Nat → Int32) (M_pivot_73 : Nat → Int32) (M_live_74 : Nat → Int32) => (k M_clauses_66 M_given_67 M_at_58 M_to_59 M_sort_60 M_worth_61 M_faultKind_62 M_faultPlace_63 M_plain_68 M_minus_69 M_block_70 M_left_71 M_right_72 M_pivot_73 M_live_74)))))))))) ∧ (r_51 = 0 → (k M_clauses M_given M_at M_to M_sort M_worth M_faultKind_49 M_faultPlace_50 M_plain M_minus M_block M_left M_right M_pivot M_live)))))
def p_M_readResolvent_J144 (M_size : Int32) (M_tape : Nat → Int32) (k : Int32 → Int32 → Int32 → Int32 → Int32 → Int32 → Int32 → Int32 → (Nat → Int32) → (Nat → Int32) → (Nat → Int32) → (Nat → Int32) → (Nat → Int32) → (Nat → Int32) → (Nat → Int32) → Prop) (x1 : Int32) (x2 : Int32) (x3 : Int32) (t0 : Int32) (M_clauses : Int32) (M_given : Int32) (M_at : Int32) (M_to : Int32) (M_sort : Int32) (M_worth : Int32) (M_faultKind : Int32) (M_faultPlace : Int32) (M_plain : Nat → Int32) (M_minus : Nat → Int32) (M_block : Nat → Int32) (M_left : Nat → Int32) (M_right : Nat → Int32) (M_pivot : Nat → Int32) (M_live : Nat → Int32) : Prop :=
  (p_M_need M_at M_faultKind M_faultPlace t0 (4 : Int32) (fun (r_42 : Int32) (M_faultKind_40 : Int32) (M_faultPlace_41 : Int32) => ((¬ r_42 = 0 → (vp_in x1 202 ∧ (vp_in x2 202 ∧ (∀ v4_46 : Int32, v4_46 = (((M_plain x1.toNatClampNeg) &&& (x3 ^^^ (-1 : Int32))) ||| (M_plain x2.toNatClampNeg)) → (∀ v5_47 : Int32, v5_47 = ((M_minus x1.toNatClampNeg) ||| ((M_minus x2.toNatClampNeg) &&& (x3 ^^^ (-1 : Int32)))) → ((¬ (v4_46 &&& v5_47) = 0 → (p_M_readResolvent_J204 M_size M_tape k x1 x2 v4_46 v5_47 (0 : Int32) M_clauses M_given M_at M_to M_sort M_worth M_faultKind_40 M_faultPlace_41 M_plain M_minus M_block M_left M_right M_pivot M_live)) ∧ ((v4_46 &&& v5_47) = 0 → (p_M_readResolvent_J204 M_size M_tape k x1 x2 v4_46 v5_47 (1 : Int32) M_clauses M_given M_at M_to M_sort M_worth M_faultKind_40 M_faultPlace_41 M_plain M_minus M_block M_left M_right M_pivot M_live)))))))) ∧ (r_42 = 0 → (k M_clauses M_given M_at M_to M_sort M_worth M_faultKind_40 M_faultPlace_41 M_plain M_minus M_block M_left M_right M_pivot M_live)))))
def p_M_readResolvent_J143 (M_size : Int32) (M_tape : Nat → Int32) (k : Int32 → Int32 → Int32 → Int32 → Int32 → Int32 → Int32 → Int32 → (Nat → Int32) → (Nat → Int32) → (Nat → Int32) → (Nat → Int32) → (Nat → Int32) → (Nat → Int32) → (Nat → Int32) → Prop) (x1 : Int32) (x2 : Int32) (x3 : Int32) (M_clauses : Int32) (M_given : Int32) (M_at : Int32) (M_to : Int32) (M_sort : Int32) (M_worth : Int32) (M_faultKind : Int32) (M_faultPlace : Int32) (M_plain : Nat → Int32) (M_minus : Nat → Int32) (M_block : Nat → Int32) (M_left : Nat → Int32) (M_right : Nat → Int32) (M_pivot : Nat → Int32) (M_live : Nat → Int32) : Prop :=
  (p_M_readResolvent_J144 M_size M_tape k x1 x2 x3 (0 : Int32) M_clauses M_given M_at M_to M_sort M_worth M_faultKind M_faultPlace M_plain M_minus M_block M_left M_right M_pivot M_live)
def p_M_readResolvent_J99 (M_size : Int32) (M_tape : Nat → Int32) (k : Int32 → Int32 → Int32 → Int32 → Int32 → Int32 → Int32 → Int32 → (Nat → Int32) → (Nat → Int32) → (Nat → Int32) → (Nat → Int32) → (Nat → Int32) → (Nat → Int32) → (Nat → Int32) → Prop) (x1 : Int32) (x2 : Int32) (t0 : Int32) (M_clauses : Int32) (M_given : Int32) (M_at : Int32) (M_to : Int32) (M_sort : Int32) (M_worth : Int32) (M_faultKind : Int32) (M_faultPlace : Int32) (M_plain : Nat → Int32) (M_minus : Nat → Int32) (M_block : Nat → Int32) (M_left : Nat → Int32) (M_right : Nat → Int32) (M_pivot : Nat → Int32) (M_live : Nat → Int32) : Prop :=
  (p_M_need M_at M_faultKind M_faultPlace t0 (2 : Int32) (fun (r_35 : Int32) (M_faultKind_33 : Int32) (M_faultPlace_34 : Int32) => ((¬ r_35 = 0 → (∀ v3_37 : Int32, v3_37 = ((1 : Int32) <<< ((M_worth - (1 : Int32)) &&& 31)) → (vp_in x1 202 ∧ ((((M_plain x1.toNatClampNeg) &&& v3_37) = 0 → (p_M_readResolvent_J143 M_size M_tape k x1 x2 v3_37 M_clauses M_given M_at M_to M_sort M_worth M_faultKind_33 M_faultPlace_34 M_plain M_minus M_block M_left M_right M_pivot M_live)) ∧ (¬ ((M_plain x1.toNatClampNeg) &&& v3_37) = 0 → (vp_in x2 202 ∧ ((((M_minus x2.toNatClampNeg) &&& v3_37) = 0 → (p_M_readResolvent_J143 M_size M_tape k x1 x2 v3_37 M_clauses M_given M_at M_to M_sort M_worth M_faultKind_33 M_faultPlace_34 M_plain M_minus M_block M_left M_right M_pivot M_live)) ∧ (¬ ((M_minus x2.toNatClampNeg) &&& v3_37) = 0 → (p_M_readResolvent_J144 M_size M_tape k x1 x2 v3_37 (1 : Int32) M_clauses M_given M_at M_to M_sort M_worth M_faultKind_33 M_faultPlace_34 M_plain M_minus M_block M_left M_right M_pivot M_live))))))))) ∧ (r_35 = 0 → (k M_clauses M_given M_at M_to M_sort M_worth M_faultKind_33 M_faultPlace_34 M_plain M_minus M_block M_left M_right M_pivot M_live)))))
def p_M_readResolvent_J98 (M_size : Int32) (M_tape : Nat → Int32) (k : Int32 → Int32 → Int32 → Int32 → Int32 → Int32 → Int32 → Int32 → (Nat → Int32) → (Nat → Int32) → (Nat → Int32) → (Nat → Int32) → (Nat → Int32) → (Nat → Int32) → (Nat → Int32) → Prop) (x1 : Int32) (x2 : Int32) (M_clauses : Int32) (M_given : Int32) (M_at : Int32) (M_to : Int32) (M_sort : Int32) (M_worth : Int32) (M_faultKind : Int32) (M_faultPlace : Int32) (M_plain : Nat → Int32) (M_minus : Nat → Int32) (M_block : Nat → Int32) (M_left : Nat → Int32) (M_right : Nat → Int32) (M_pivot : Nat → Int32) (M_live : Nat → Int32) : Prop :=
  (p_M_readResolvent_J99 M_size M_tape k x1 x2 (0 : Int32) M_clauses M_given M_at M_to M_sort M_worth M_faultKind M_faultPlace M_plain M_minus M_block M_left M_right M_pivot M_live)
def p_M_readResolvent_J69 (M_size : Int32) (M_tape : Nat → Int32) (k : Int32 → Int32 → Int32 → Int32 → Int32 → Int32 → Int32 → Int32 → (Nat → Int32) → (Nat → Int32) → (Nat → Int32) → (Nat → Int32) → (Nat → Int32) → (Nat → Int32) → (Nat → Int32) → Prop) (x1 : Int32) (x2 : Int32) (t0 : Int32) (M_clauses : Int32) (M_given : Int32) (M_at : Int32) (M_to : Int32) (M_sort : Int32) (M_worth : Int32) (M_faultKind : Int32) (M_faultPlace : Int32) (M_plain : Nat → Int32) (M_minus : Nat → Int32) (M_block : Nat → Int32) (M_left : Nat → Int32) (M_right : Nat → Int32) (M_pivot : Nat → Int32) (M_live : Nat → Int32) : Prop :=
  (p_M_need M_at M_faultKind M_faultPlace t0 (1 : Int32) (fun (r_30 : Int32) (M_faultKind_28 : Int32) (M_faultPlace_29 : Int32) => ((r_30 = 0 → (k M_clauses M_given M_at M_to M_sort M_worth M_faultKind_28 M_faultPlace_29 M_plain M_minus M_block M_left M_right M_pivot M_live)) ∧ (¬ r_30 = 0 → ((M_worth < (1 : Int32) → (p_M_readResolvent_J98 M_size M_tape k x1 x2 M_clauses M_given M_at M_to M_sort M_worth M_faultKind_28 M_faultPlace_29 M_plain M_minus M_block M_left M_right M_pivot M_live)) ∧ (¬ M_worth < (1 : Int32) → (((10 : Int32) < M_worth → (p_M_readResolvent_J98 M_size M_tape k x1 x2 M_clauses M_given M_at M_to M_sort M_worth M_faultKind_28 M_faultPlace_29 M_plain M_minus M_block M_left M_right M_pivot M_live)) ∧ (¬ (10 : Int32) < M_worth → (p_M_readResolvent_J99 M_size M_tape k x1 x2 (1 : Int32) M_clauses M_given M_at M_to M_sort M_worth M_faultKind_28 M_faultPlace_29 M_plain M_minus M_block M_left M_right M_pivot M_live)))))))))
def p_M_readResolvent_J16 (M_size : Int32) (M_tape : Nat → Int32) (k : Int32 → Int32 → Int32 → Int32 → Int32 → Int32 → Int32 → Int32 → (Nat → Int32) → (Nat → Int32) → (Nat → Int32) → (Nat → Int32) → (Nat → Int32) → (Nat → Int32) → (Nat → Int32) → Prop) (t0 : Int32) (M_clauses : Int32) (M_given : Int32) (M_at : Int32) (M_to : Int32) (M_sort : Int32) (M_worth : Int32) (M_faultKind : Int32) (M_faultPlace : Int32) (M_plain : Nat → Int32) (M_minus : Nat → Int32) (M_block : Nat → Int32) (M_left : Nat → Int32) (M_right : Nat → Int32) (M_pivot : Nat → Int32) (M_live : Nat → Int32) : Prop :=
  (p_M_need M_at M_faultKind M_faultPlace t0 (6 : Int32) (fun (r_4 : Int32) (M_faultKind_2 : Int32) (M_faultPlace_3 : Int32) => ((¬ r_4 = 0 → (p_M_cut M_size M_at M_to M_sort M_worth M_tape (fun (M_at_6 : Int32) (M_to_7 : Int32) (M_sort_8 : Int32) (M_worth_9 : Int32) => (p_M_clauseHere M_clauses M_size M_at_6 M_to_7 M_sort_8 M_worth_9 M_faultKind_2 M_faultPlace_3 M_tape (fun (r_17 : Int32) (M_at_11 : Int32) (M_to_12 : Int32) (M_sort_13 : Int32) (M_worth_14 : Int32) (M_faultKind_15 : Int32) (M_faultPlace_16 : Int32) => ((M_faultKind_15 ≤ 0 → (p_M_clauseHere M_clauses M_size M_at_11 M_to_12 M_sort_13 M_worth_14 M_faultKind_15 M_faultPlace_16 M_tape (fun (r_25 : Int32) (M_at_19 : Int32) (M_to_20 : Int32) (M_sort_21 : Int32) (M_worth_22 : Int32) (M_faultKind_23 : Int32) (M_faultPlace_24 : Int32) => ((M_faultKind_23 ≤ 0 → ((¬ M_sort_21 = (1 : Int32) → (p_M_readResolvent_J69 M_size M_tape k r_17 r_25 (0 : Int32) M_clauses M_given M_at_19 M_to_20 M_sort_21 M_worth_22 M_faultKind_23 M_faultPlace_24 M_plain M_minus M_block M_left M_right M_pivot M_live)) ∧ (M_sort_21 = (1 : Int32) → (p_M_readResolvent_J69 M_size M_tape k r_17 r_25 (1 : Int32) M_clauses M_given M_at_19 M_to_20 M_sort_21 M_worth_22 M_faultKind_23 M_faultPlace_24 M_plain M_minus M_block M_left M_right M_pivot M_live)))) ∧ (¬ M_faultKind_23 ≤ 0 → (k M_clauses M_given M_at_19 M_to_20 M_sort_21 M_worth_22 M_faultKind_23 M_faultPlace_24 M_plain M_minus M_block M_left M_right M_pivot M_live)))))) ∧ (¬ M_faultKind_15 ≤ 0 → (k M_clauses M_given M_at_11 M_to_12 M_sort_13 M_worth_14 M_faultKind_15 M_faultPlace_16 M_plain M_minus M_block M_left M_right M_pivot M_live)))))))) ∧ (r_4 = 0 → (k M_clauses M_given M_at M_to M_sort M_worth M_faultKind_2 M_faultPlace_3 M_plain M_minus M_block M_left M_right M_pivot M_live)))))
def p_M_readResolvent (M_clauses : Int32) (M_given : Int32) (M_size : Int32) (M_at : Int32) (M_to : Int32) (M_sort : Int32) (M_worth : Int32) (M_faultKind : Int32) (M_faultPlace : Int32) (M_plain : Nat → Int32) (M_minus : Nat → Int32) (M_block : Nat → Int32) (M_left : Nat → Int32) (M_right : Nat → Int32) (M_pivot : Nat → Int32) (M_live : Nat → Int32) (M_tape : Nat → Int32) (k : Int32 → Int32 → Int32 → Int32 → Int32 → Int32 → Int32 → Int32 → (Nat → Int32) → (Nat → Int32) → (Nat → Int32) → (Nat → Int32) → (Nat → Int32) → (Nat → Int32) → (Nat → Int32) → Prop) : Prop :=
  (((200 : Int32) ≤ M_clauses → (p_M_readResolvent_J16 M_size M_tape k (0 : Int32) M_clauses M_given M_at M_to M_sort M_worth M_faultKind M_faultPlace M_plain M_minus M_block M_left M_right M_pivot M_live)) ∧ (¬ (200 : Int32) ≤ M_clauses → (p_M_readResolvent_J16 M_size M_tape k (1 : Int32) M_clauses M_given M_at M_to M_sort M_worth M_faultKind M_faultPlace M_plain M_minus M_block M_left M_right M_pivot M_live)))
abbrev rm_M_readResolvent : Room := { frames := 3, cells := 0, slots := 0, locals := 64 }
set_option maxHeartbeats 4000000 in
set_option maxRecDepth 100000 in
theorem b_M_readResolvent_J204 {p : Program} {l : Launch} {e : Env} {s : State} {m : MethodId} {args : Array Value} {below : List Frame} {meth : Method} {c : Code} {D : va_G} {ca : Nat → ClassId} {tp : Nat} {A : Nat → Prop} {am : Nat → Nat} {M_end : Int32} {M_taped : Int32} {M_size : Int32} {M_isTold : Int32} {M_nodes : Int32} {M_needed : Nat → Int32} {M_label : Nat → Int32} {M_tape : Nat → Int32} {M_of : Nat → Int64} {M_kept : Nat → Int64} {M_had : Nat → Int32} {M_told : Nat → Int64} {M_first : Nat → Int64} {M_second : Nat → Int64} {M_node : Nat → Int64} {M_nodeVariable : Nat → Int32} {M_nodeLow : Nat → Int32} {M_nodeHigh : Nat → Int32} {M_wait : Nat → Int32}  {k : Int32 → Int32 → Int32 → Int32 → Int32 → Int32 → Int32 → Int32 → (Nat → Int32) → (Nat → Int32) → (Nat → Int32) → (Nat → Int32) → (Nat → Int32) → (Nat → Int32) → (Nat → Int32) → Prop}  (C0 : CX p s m args meth c b_M_readResolvent 7 none R_M "readResolvent" D ca tp A) :
    ∀ (x1 : Int32) (x2 : Int32) (x4 : Int32) (x5 : Int32) (t0 : Int32) (M_clauses : Int32) (M_given : Int32) (M_at : Int32) (M_to : Int32) (M_sort : Int32) (M_worth : Int32) (M_faultKind : Int32) (M_faultPlace : Int32) (M_plain : Nat → Int32) (M_minus : Nat → Int32) (M_block : Nat → Int32) (M_left : Nat → Int32) (M_right : Nat → Int32) (M_pivot : Nat → Int32) (M_live : Nat → Int32) {H : Heap} {locs : List Loc} {ls : Array Slot}, p_M_readResolvent_J204 M_size M_tape k x1 x2 x4 x5 t0 M_clauses M_given M_at M_to M_sort M_worth M_faultKind M_faultPlace M_plain M_minus M_block M_left M_right M_pivot M_live → WH D A s (WM am ca M_clauses M_given M_end M_taped M_size M_at M_to M_sort M_worth M_faultKind M_faultPlace M_isTold M_nodes M_plain M_minus M_block M_left M_right M_pivot M_live M_needed M_label M_tape M_of M_kept M_had M_told M_first M_second M_node M_nodeVariable M_nodeLow M_nodeHigh M_wait) H locs → lv_has ls 7 [(0, .ref (am 0)), (1, .int x1), (2, .int x2), (4, .int x4), (5, .int x5)] →
      W p l e rm_M_readResolvent s m args below meth c H locs 0 0 (QV D A below args s (fun (u : Int32 × Int32 × Int32 × Int32 × Int32 × Int32 × Int32 × Int32 × (Nat → Int32) × (Nat → Int32) × (Nat → Int32) × (Nat → Int32) × (Nat → Int32) × (Nat → Int32) × (Nat → Int32)) => k u.1 u.2.1 u.2.2.1 u.2.2.2.1 u.2.2.2.2.1 u.2.2.2.2.2.1 u.2.2.2.2.2.2.1 u.2.2.2.2.2.2.2.1 u.2.2.2.2.2.2.2.2.1 u.2.2.2.2.2.2.2.2.2.1 u.2.2.2.2.2.2.2.2.2.2.1 u.2.2.2.2.2.2.2.2.2.2.2.1 u.2.2.2.2.2.2.2.2.2.2.2.2.1 u.2.2.2.2.2.2.2.2.2.2.2.2.2.1 u.2.2.2.2.2.2.2.2.2.2.2.2.2.2) (fun (u : Int32 × Int32 × Int32 × Int32 × Int32 × Int32 × Int32 × Int32 × (Nat → Int32) × (Nat → Int32) × (Nat → Int32) × (Nat → Int32) × (Nat → Int32) × (Nat → Int32) × (Nat → Int32)) => WM am ca u.1 u.2.1 M_end M_taped M_size u.2.2.1 u.2.2.2.1 u.2.2.2.2.1 u.2.2.2.2.2.1 u.2.2.2.2.2.2.1 u.2.2.2.2.2.2.2.1 M_isTold M_nodes u.2.2.2.2.2.2.2.2.1 u.2.2.2.2.2.2.2.2.2.1 u.2.2.2.2.2.2.2.2.2.2.1 u.2.2.2.2.2.2.2.2.2.2.2.1 u.2.2.2.2.2.2.2.2.2.2.2.2.1 u.2.2.2.2.2.2.2.2.2.2.2.2.2.1 u.2.2.2.2.2.2.2.2.2.2.2.2.2.2 M_needed M_label M_tape M_of M_kept M_had M_told M_first M_second M_node M_nodeVariable M_nodeLow M_nodeHigh M_wait) 0 0) (F0 m 204 ls [.int t0, .ref (am 0)]) := by
  have hx := C0.1
  have hb := C0.2.1
  intro x1 x2 x4 x5 t0 M_clauses M_given M_at M_to M_sort M_worth M_faultKind M_faultPlace M_plain M_minus M_block M_left M_right M_pivot M_live H locs ls h hw hl
  unfold p_M_readResolvent_J204 at h
  refine lv_iconst (v := 5) hx hb d_M_readResolvent_204 (by decide) ?_
  refine x_callVi C0 hw hl (c_M_need h) g_M_need wm_851 ⟨wm_35, wm_853⟩ 0 rfl rfl rfl (As := [.int t0, .int (5 : Int32)]) (rest := []) rfl rfl (Nat.le_of_ble_eq_true rfl) ⟨rfl, rfl⟩ ⟨Nat.le_of_ble_eq_true rfl, Nat.le_of_ble_eq_true rfl⟩ ⟨Nat.le_of_ble_eq_true rfl, Nat.le_of_ble_eq_true rfl⟩ d_M_readResolvent_205 (fun r_51 u H locs h hw => ?_)
  obtain ⟨M_faultKind_49, M_faultPlace_50⟩ := u
  refine lv_if_ne (tgt := 212) hx hb d_M_readResolvent_208 (by decide) (fun c_52 => ?_) (fun c_52 => ?_)
  · have h := h.1 c_52
    refine lv_aload_n hx hb d_M_readResolvent_212 rfl (lv_at hl 0 rfl) ?_
    refine x_get C0 hw 0 rfl rfl i_M 18 (by decide) wm_743 rfl rfl d_M_readResolvent_213 ?_
    refine lv_istore (lv' := [(6, .int M_worth), (0, .ref (am 0)), (1, .int x1), (2, .int x2), (4, .int x4), (5, .int x5)]) hx hb d_M_readResolvent_216 hl (by decide) rfl (fun ls hl => ?_)
    refine lv_aload_n hx hb d_M_readResolvent_218 rfl (lv_at hl 1 rfl) ?_
    refine x_callVv C0 hw hl (c_M_cut h) g_M_cut wm_840 ⟨wm_33, wm_842⟩ 0 rfl rfl rfl (As := []) (rest := []) rfl rfl (Nat.le_of_ble_eq_true rfl) ⟨rfl, rfl⟩ ⟨Nat.le_of_ble_eq_true rfl, Nat.le_of_ble_eq_true rfl⟩ ⟨Nat.le_of_ble_eq_true rfl, Nat.le_of_ble_eq_true rfl⟩ d_M_readResolvent_219 (fun u H locs h hw => ?_)
    obtain ⟨M_at_53, M_to_54, M_sort_55, M_worth_56⟩ := u
    refine lv_aload_n hx hb d_M_readResolvent_222 rfl (lv_at hl 1 rfl) ?_
    refine lv_bipush (v := 59) hx hb d_M_readResolvent_223 (by decide) ?_
    refine x_callVi C0 hw hl (c_M_takes h) g_M_takes wm_855 ⟨wm_36, wm_857⟩ 0 rfl rfl rfl (As := [.int (59 : Int32)]) (rest := []) rfl rfl (Nat.le_of_ble_eq_true rfl) ⟨rfl, rfl⟩ ⟨Nat.le_of_ble_eq_true rfl, Nat.le_of_ble_eq_true rfl⟩ ⟨Nat.le_of_ble_eq_true rfl, Nat.le_of_ble_eq_true rfl⟩ d_M_readResolvent_225 (fun r_64 u H locs h hw => ?_)
    obtain ⟨M_at_58, M_to_59, M_sort_60, M_worth_61, M_faultKind_62, M_faultPlace_63⟩ := u
    refine lv_if_eq (tgt := 244) hx hb d_M_readResolvent_228 (by decide) (fun c_65 => ?_) (fun c_65 => ?_)
    · have h := h.1 c_65
      exact x_vret C0 hw (M_clauses, M_given, M_at_58, M_to_59, M_sort_60, M_worth_61, M_faultKind_62, M_faultPlace_63, M_plain, M_minus, M_block, M_left, M_right, M_pivot, M_live) h rfl d_M_readResolvent_244
    · have h := h.2 c_65
      refine lv_aload_n hx hb d_M_readResolvent_231 rfl (lv_at hl 1 rfl) ?_
      refine lv_iload hx hb d_M_readResolvent_232 (lv_at hl 4 rfl) ?_
      refine lv_iload hx hb d_M_readResolvent_234 (lv_at hl 5 rfl) ?_
      refine lv_iconst (v := 0) hx hb d_M_readResolvent_236 (by decide) ?_
      refine lv_iload_n hx hb d_M_readResolvent_237 rfl (lv_at hl 2 rfl) ?_
      refine lv_iload_n hx hb d_M_readResolvent_238 rfl (lv_at hl 3 rfl) ?_
      refine lv_iload hx hb d_M_readResolvent_239 (lv_at hl 0 rfl) ?_
      refine x_callVv C0 hw hl (c_M_add h) g_M_add wm_859 ⟨wm_37, wm_861⟩ 0 rfl rfl rfl (As := [.int x4, .int x5, .int (0 : Int32), .int x1, .int x2, .int M_worth]) (rest := []) rfl rfl (Nat.le_of_ble_eq_true rfl) ⟨rfl, rfl⟩ ⟨Nat.le_of_ble_eq_true rfl, Nat.le_of_ble_eq_true rfl⟩ ⟨Nat.le_of_ble_eq_true rfl, Nat.le_of_ble_eq_true rfl⟩ d_M_readResolvent_241 (fun u H locs h hw => ?_)
      obtain ⟨M_clauses_66, M_given_67, M_plain_68, M_minus_69, M_block_70, M_left_71, M_right_72, M_pivot_73, M_live_74⟩ := u
      exact x_vret C0 hw (M_clauses_66, M_given_67, M_at_58, M_to_59, M_sort_60, M_worth_61, M_faultKind_62, M_faultPlace_63, M_plain_68, M_minus_69, M_block_70, M_left_71, M_right_72, M_pivot_73, M_live_74) h rfl d_M_readResolvent_244
  · have h := h.2 c_52
    exact x_vret C0 hw (M_clauses, M_given, M_at, M_to, M_sort, M_worth, M_faultKind_49, M_faultPlace_50, M_plain, M_minus, M_block, M_left, M_right, M_pivot, M_live) h rfl d_M_readResolvent_211
set_option maxHeartbeats 4000000 in
set_option maxRecDepth 100000 in
theorem b_M_readResolvent_J144 {p : Program} {l : Launch} {e : Env} {s : State} {m : MethodId} {args : Array Value} {below : List Frame} {meth : Method} {c : Code} {D : va_G} {ca : Nat → ClassId} {tp : Nat} {A : Nat → Prop} {am : Nat → Nat} {M_end : Int32} {M_taped : Int32} {M_size : Int32} {M_isTold : Int32} {M_nodes : Int32} {M_needed : Nat → Int32} {M_label : Nat → Int32} {M_tape : Nat → Int32} {M_of : Nat → Int64} {M_kept : Nat → Int64} {M_had : Nat → Int32} {M_told : Nat → Int64} {M_first : Nat → Int64} {M_second : Nat → Int64} {M_node : Nat → Int64} {M_nodeVariable : Nat → Int32} {M_nodeLow : Nat → Int32} {M_nodeHigh : Nat → Int32} {M_wait : Nat → Int32}  {k : Int32 → Int32 → Int32 → Int32 → Int32 → Int32 → Int32 → Int32 → (Nat → Int32) → (Nat → Int32) → (Nat → Int32) → (Nat → Int32) → (Nat → Int32) → (Nat → Int32) → (Nat → Int32) → Prop}  (C0 : CX p s m args meth c b_M_readResolvent 7 none R_M "readResolvent" D ca tp A) :
    ∀ (x1 : Int32) (x2 : Int32) (x3 : Int32) (t0 : Int32) (M_clauses : Int32) (M_given : Int32) (M_at : Int32) (M_to : Int32) (M_sort : Int32) (M_worth : Int32) (M_faultKind : Int32) (M_faultPlace : Int32) (M_plain : Nat → Int32) (M_minus : Nat → Int32) (M_block : Nat → Int32) (M_left : Nat → Int32) (M_right : Nat → Int32) (M_pivot : Nat → Int32) (M_live : Nat → Int32) {H : Heap} {locs : List Loc} {ls : Array Slot}, p_M_readResolvent_J144 M_size M_tape k x1 x2 x3 t0 M_clauses M_given M_at M_to M_sort M_worth M_faultKind M_faultPlace M_plain M_minus M_block M_left M_right M_pivot M_live → WH D A s (WM am ca M_clauses M_given M_end M_taped M_size M_at M_to M_sort M_worth M_faultKind M_faultPlace M_isTold M_nodes M_plain M_minus M_block M_left M_right M_pivot M_live M_needed M_label M_tape M_of M_kept M_had M_told M_first M_second M_node M_nodeVariable M_nodeLow M_nodeHigh M_wait) H locs → lv_has ls 7 [(0, .ref (am 0)), (1, .int x1), (2, .int x2), (3, .int x3)] →
      W p l e rm_M_readResolvent s m args below meth c H locs 0 0 (QV D A below args s (fun (u : Int32 × Int32 × Int32 × Int32 × Int32 × Int32 × Int32 × Int32 × (Nat → Int32) × (Nat → Int32) × (Nat → Int32) × (Nat → Int32) × (Nat → Int32) × (Nat → Int32) × (Nat → Int32)) => k u.1 u.2.1 u.2.2.1 u.2.2.2.1 u.2.2.2.2.1 u.2.2.2.2.2.1 u.2.2.2.2.2.2.1 u.2.2.2.2.2.2.2.1 u.2.2.2.2.2.2.2.2.1 u.2.2.2.2.2.2.2.2.2.1 u.2.2.2.2.2.2.2.2.2.2.1 u.2.2.2.2.2.2.2.2.2.2.2.1 u.2.2.2.2.2.2.2.2.2.2.2.2.1 u.2.2.2.2.2.2.2.2.2.2.2.2.2.1 u.2.2.2.2.2.2.2.2.2.2.2.2.2.2) (fun (u : Int32 × Int32 × Int32 × Int32 × Int32 × Int32 × Int32 × Int32 × (Nat → Int32) × (Nat → Int32) × (Nat → Int32) × (Nat → Int32) × (Nat → Int32) × (Nat → Int32) × (Nat → Int32)) => WM am ca u.1 u.2.1 M_end M_taped M_size u.2.2.1 u.2.2.2.1 u.2.2.2.2.1 u.2.2.2.2.2.1 u.2.2.2.2.2.2.1 u.2.2.2.2.2.2.2.1 M_isTold M_nodes u.2.2.2.2.2.2.2.2.1 u.2.2.2.2.2.2.2.2.2.1 u.2.2.2.2.2.2.2.2.2.2.1 u.2.2.2.2.2.2.2.2.2.2.2.1 u.2.2.2.2.2.2.2.2.2.2.2.2.1 u.2.2.2.2.2.2.2.2.2.2.2.2.2.1 u.2.2.2.2.2.2.2.2.2.2.2.2.2.2 M_needed M_label M_tape M_of M_kept M_had M_told M_first M_second M_node M_nodeVariable M_nodeLow M_nodeHigh M_wait) 0 0) (F0 m 144 ls [.int t0, .ref (am 0)]) := by
  have hx := C0.1
  have hb := C0.2.1
  intro x1 x2 x3 t0 M_clauses M_given M_at M_to M_sort M_worth M_faultKind M_faultPlace M_plain M_minus M_block M_left M_right M_pivot M_live H locs ls h hw hl
  unfold p_M_readResolvent_J144 at h
  refine lv_iconst (v := 4) hx hb d_M_readResolvent_144 (by decide) ?_
  refine x_callVi C0 hw hl (c_M_need h) g_M_need wm_851 ⟨wm_35, wm_853⟩ 0 rfl rfl rfl (As := [.int t0, .int (4 : Int32)]) (rest := []) rfl rfl (Nat.le_of_ble_eq_true rfl) ⟨rfl, rfl⟩ ⟨Nat.le_of_ble_eq_true rfl, Nat.le_of_ble_eq_true rfl⟩ ⟨Nat.le_of_ble_eq_true rfl, Nat.le_of_ble_eq_true rfl⟩ d_M_readResolvent_145 (fun r_42 u H locs h hw => ?_)
  obtain ⟨M_faultKind_40, M_faultPlace_41⟩ := u
  refine lv_if_ne (tgt := 152) hx hb d_M_readResolvent_148 (by decide) (fun c_43 => ?_) (fun c_43 => ?_)
  · have h := h.1 c_43
    refine lv_aload_n hx hb d_M_readResolvent_152 rfl (lv_at hl 0 rfl) ?_
    refine x_get C0 hw 0 rfl rfl i_M 0 (by decide) wm_725 rfl rfl d_M_readResolvent_153 ?_
    refine lv_iload_n hx hb d_M_readResolvent_156 rfl (lv_at hl 1 rfl) ?_
    obtain ⟨hi_44, h⟩ := h
    refine x_iald C0 hw 1 rfl hi_44 d_M_readResolvent_157 ?_
    refine lv_iload_n hx hb d_M_readResolvent_158 rfl (lv_at hl 3 rfl) ?_
    refine lv_iconst (v := -1) hx hb d_M_readResolvent_159 (by decide) ?_
    refine lv_ixor hx hb d_M_readResolvent_160 ?_
    refine lv_iand hx hb d_M_readResolvent_161 ?_
    refine lv_aload_n hx hb d_M_readResolvent_162 rfl (lv_at hl 0 rfl) ?_
    refine x_get C0 hw 0 rfl rfl i_M 0 (by decide) wm_725 rfl rfl d_M_readResolvent_163 ?_
    refine lv_iload_n hx hb d_M_readResolvent_166 rfl (lv_at hl 2 rfl) ?_
    obtain ⟨hi_45, h⟩ := h
    refine x_iald C0 hw 1 rfl hi_45 d_M_readResolvent_167 ?_
    refine lv_ior hx hb d_M_readResolvent_168 ?_
    refine lv_topi (fun v4_46 e_v4_46 => ?_)
    have h := h v4_46 e_v4_46
    refine lv_istore (lv' := [(4, .int v4_46), (0, .ref (am 0)), (1, .int x1), (2, .int x2), (3, .int x3)]) hx hb d_M_readResolvent_169 hl (by decide) rfl (fun ls hl => ?_)
    refine lv_aload_n hx hb d_M_readResolvent_171 rfl (lv_at hl 1 rfl) ?_
    refine x_get C0 hw 0 rfl rfl i_M 1 (by decide) wm_726 rfl rfl d_M_readResolvent_172 ?_
    refine lv_iload_n hx hb d_M_readResolvent_175 rfl (lv_at hl 2 rfl) ?_
    refine x_iald C0 hw 2 rfl hi_44 d_M_readResolvent_176 ?_
    refine lv_aload_n hx hb d_M_readResolvent_177 rfl (lv_at hl 1 rfl) ?_
    refine x_get C0 hw 0 rfl rfl i_M 1 (by decide) wm_726 rfl rfl d_M_readResolvent_178 ?_
    refine lv_iload_n hx hb d_M_readResolvent_181 rfl (lv_at hl 3 rfl) ?_
    refine x_iald C0 hw 2 rfl hi_45 d_M_readResolvent_182 ?_
    refine lv_iload_n hx hb d_M_readResolvent_183 rfl (lv_at hl 4 rfl) ?_
    refine lv_iconst (v := -1) hx hb d_M_readResolvent_184 (by decide) ?_
    refine lv_ixor hx hb d_M_readResolvent_185 ?_
    refine lv_iand hx hb d_M_readResolvent_186 ?_
    refine lv_ior hx hb d_M_readResolvent_187 ?_
    refine lv_topi (fun v5_47 e_v5_47 => ?_)
    have h := h v5_47 e_v5_47
    refine lv_istore (lv' := [(5, .int v5_47), (4, .int v4_46), (0, .ref (am 0)), (1, .int x1), (2, .int x2), (3, .int x3)]) hx hb d_M_readResolvent_188 hl (by decide) rfl (fun ls hl => ?_)
    refine lv_aload_n hx hb d_M_readResolvent_190 rfl (lv_at hl 2 rfl) ?_
    refine lv_iload hx hb d_M_readResolvent_191 (lv_at hl 1 rfl) ?_
    refine lv_iload hx hb d_M_readResolvent_193 (lv_at hl 0 rfl) ?_
    refine lv_iand hx hb d_M_readResolvent_195 ?_
    refine lv_if_ne (tgt := 203) hx hb d_M_readResolvent_196 (by decide) (fun c_48 => ?_) (fun c_48 => ?_)
    · have h := h.1 c_48
      refine lv_iconst (v := 0) hx hb d_M_readResolvent_203 (by decide) ?_
      refine b_M_readResolvent_J204 C0 _ _ _ _ _ _ _ _ _ _ _ _ _ _ _ _ _ _ _ _ h hw (lv_sub hl [2, 3, 4, 1, 0] rfl)
    · have h := h.2 c_48
      refine lv_iconst (v := 1) hx hb d_M_readResolvent_199 (by decide) ?_
      refine lv_goto (tgt := 204) hx hb d_M_readResolvent_200 (by decide) ?_
      refine b_M_readResolvent_J204 C0 _ _ _ _ _ _ _ _ _ _ _ _ _ _ _ _ _ _ _ _ h hw (lv_sub hl [2, 3, 4, 1, 0] rfl)
  · have h := h.2 c_43
    exact x_vret C0 hw (M_clauses, M_given, M_at, M_to, M_sort, M_worth, M_faultKind_40, M_faultPlace_41, M_plain, M_minus, M_block, M_left, M_right, M_pivot, M_live) h rfl d_M_readResolvent_151
set_option maxHeartbeats 4000000 in
set_option maxRecDepth 100000 in
theorem b_M_readResolvent_J143 {p : Program} {l : Launch} {e : Env} {s : State} {m : MethodId} {args : Array Value} {below : List Frame} {meth : Method} {c : Code} {D : va_G} {ca : Nat → ClassId} {tp : Nat} {A : Nat → Prop} {am : Nat → Nat} {M_end : Int32} {M_taped : Int32} {M_size : Int32} {M_isTold : Int32} {M_nodes : Int32} {M_needed : Nat → Int32} {M_label : Nat → Int32} {M_tape : Nat → Int32} {M_of : Nat → Int64} {M_kept : Nat → Int64} {M_had : Nat → Int32} {M_told : Nat → Int64} {M_first : Nat → Int64} {M_second : Nat → Int64} {M_node : Nat → Int64} {M_nodeVariable : Nat → Int32} {M_nodeLow : Nat → Int32} {M_nodeHigh : Nat → Int32} {M_wait : Nat → Int32}  {k : Int32 → Int32 → Int32 → Int32 → Int32 → Int32 → Int32 → Int32 → (Nat → Int32) → (Nat → Int32) → (Nat → Int32) → (Nat → Int32) → (Nat → Int32) → (Nat → Int32) → (Nat → Int32) → Prop}  (C0 : CX p s m args meth c b_M_readResolvent 7 none R_M "readResolvent" D ca tp A) :
    ∀ (x1 : Int32) (x2 : Int32) (x3 : Int32) (M_clauses : Int32) (M_given : Int32) (M_at : Int32) (M_to : Int32) (M_sort : Int32) (M_worth : Int32) (M_faultKind : Int32) (M_faultPlace : Int32) (M_plain : Nat → Int32) (M_minus : Nat → Int32) (M_block : Nat → Int32) (M_left : Nat → Int32) (M_right : Nat → Int32) (M_pivot : Nat → Int32) (M_live : Nat → Int32) {H : Heap} {locs : List Loc} {ls : Array Slot}, p_M_readResolvent_J143 M_size M_tape k x1 x2 x3 M_clauses M_given M_at M_to M_sort M_worth M_faultKind M_faultPlace M_plain M_minus M_block M_left M_right M_pivot M_live → WH D A s (WM am ca M_clauses M_given M_end M_taped M_size M_at M_to M_sort M_worth M_faultKind M_faultPlace M_isTold M_nodes M_plain M_minus M_block M_left M_right M_pivot M_live M_needed M_label M_tape M_of M_kept M_had M_told M_first M_second M_node M_nodeVariable M_nodeLow M_nodeHigh M_wait) H locs → lv_has ls 7 [(0, .ref (am 0)), (1, .int x1), (2, .int x2), (3, .int x3)] →
      W p l e rm_M_readResolvent s m args below meth c H locs 0 0 (QV D A below args s (fun (u : Int32 × Int32 × Int32 × Int32 × Int32 × Int32 × Int32 × Int32 × (Nat → Int32) × (Nat → Int32) × (Nat → Int32) × (Nat → Int32) × (Nat → Int32) × (Nat → Int32) × (Nat → Int32)) => k u.1 u.2.1 u.2.2.1 u.2.2.2.1 u.2.2.2.2.1 u.2.2.2.2.2.1 u.2.2.2.2.2.2.1 u.2.2.2.2.2.2.2.1 u.2.2.2.2.2.2.2.2.1 u.2.2.2.2.2.2.2.2.2.1 u.2.2.2.2.2.2.2.2.2.2.1 u.2.2.2.2.2.2.2.2.2.2.2.1 u.2.2.2.2.2.2.2.2.2.2.2.2.1 u.2.2.2.2.2.2.2.2.2.2.2.2.2.1 u.2.2.2.2.2.2.2.2.2.2.2.2.2.2) (fun (u : Int32 × Int32 × Int32 × Int32 × Int32 × Int32 × Int32 × Int32 × (Nat → Int32) × (Nat → Int32) × (Nat → Int32) × (Nat → Int32) × (Nat → Int32) × (Nat → Int32) × (Nat → Int32)) => WM am ca u.1 u.2.1 M_end M_taped M_size u.2.2.1 u.2.2.2.1 u.2.2.2.2.1 u.2.2.2.2.2.1 u.2.2.2.2.2.2.1 u.2.2.2.2.2.2.2.1 M_isTold M_nodes u.2.2.2.2.2.2.2.2.1 u.2.2.2.2.2.2.2.2.2.1 u.2.2.2.2.2.2.2.2.2.2.1 u.2.2.2.2.2.2.2.2.2.2.2.1 u.2.2.2.2.2.2.2.2.2.2.2.2.1 u.2.2.2.2.2.2.2.2.2.2.2.2.2.1 u.2.2.2.2.2.2.2.2.2.2.2.2.2.2 M_needed M_label M_tape M_of M_kept M_had M_told M_first M_second M_node M_nodeVariable M_nodeLow M_nodeHigh M_wait) 0 0) (F0 m 143 ls [.ref (am 0)]) := by
  have hx := C0.1
  have hb := C0.2.1
  intro x1 x2 x3 M_clauses M_given M_at M_to M_sort M_worth M_faultKind M_faultPlace M_plain M_minus M_block M_left M_right M_pivot M_live H locs ls h hw hl
  unfold p_M_readResolvent_J143 at h
  refine lv_iconst (v := 0) hx hb d_M_readResolvent_143 (by decide) ?_
  refine b_M_readResolvent_J144 C0 _ _ _ _ _ _ _ _ _ _ _ _ _ _ _ _ _ _ _ h hw (lv_sub hl [0, 1, 2, 3] rfl)
set_option maxHeartbeats 4000000 in
set_option maxRecDepth 100000 in
theorem b_M_readResolvent_J99 {p : Program} {l : Launch} {e : Env} {s : State} {m : MethodId} {args : Array Value} {below : List Frame} {meth : Method} {c : Code} {D : va_G} {ca : Nat → ClassId} {tp : Nat} {A : Nat → Prop} {am : Nat → Nat} {M_end : Int32} {M_taped : Int32} {M_size : Int32} {M_isTold : Int32} {M_nodes : Int32} {M_needed : Nat → Int32} {M_label : Nat → Int32} {M_tape : Nat → Int32} {M_of : Nat → Int64} {M_kept : Nat → Int64} {M_had : Nat → Int32} {M_told : Nat → Int64} {M_first : Nat → Int64} {M_second : Nat → Int64} {M_node : Nat → Int64} {M_nodeVariable : Nat → Int32} {M_nodeLow : Nat → Int32} {M_nodeHigh : Nat → Int32} {M_wait : Nat → Int32}  {k : Int32 → Int32 → Int32 → Int32 → Int32 → Int32 → Int32 → Int32 → (Nat → Int32) → (Nat → Int32) → (Nat → Int32) → (Nat → Int32) → (Nat → Int32) → (Nat → Int32) → (Nat → Int32) → Prop}  (C0 : CX p s m args meth c b_M_readResolvent 7 none R_M "readResolvent" D ca tp A) :
    ∀ (x1 : Int32) (x2 : Int32) (t0 : Int32) (M_clauses : Int32) (M_given : Int32) (M_at : Int32) (M_to : Int32) (M_sort : Int32) (M_worth : Int32) (M_faultKind : Int32) (M_faultPlace : Int32) (M_plain : Nat → Int32) (M_minus : Nat → Int32) (M_block : Nat → Int32) (M_left : Nat → Int32) (M_right : Nat → Int32) (M_pivot : Nat → Int32) (M_live : Nat → Int32) {H : Heap} {locs : List Loc} {ls : Array Slot}, p_M_readResolvent_J99 M_size M_tape k x1 x2 t0 M_clauses M_given M_at M_to M_sort M_worth M_faultKind M_faultPlace M_plain M_minus M_block M_left M_right M_pivot M_live → WH D A s (WM am ca M_clauses M_given M_end M_taped M_size M_at M_to M_sort M_worth M_faultKind M_faultPlace M_isTold M_nodes M_plain M_minus M_block M_left M_right M_pivot M_live M_needed M_label M_tape M_of M_kept M_had M_told M_first M_second M_node M_nodeVariable M_nodeLow M_nodeHigh M_wait) H locs → lv_has ls 7 [(0, .ref (am 0)), (1, .int x1), (2, .int x2)] →
      W p l e rm_M_readResolvent s m args below meth c H locs 0 0 (QV D A below args s (fun (u : Int32 × Int32 × Int32 × Int32 × Int32 × Int32 × Int32 × Int32 × (Nat → Int32) × (Nat → Int32) × (Nat → Int32) × (Nat → Int32) × (Nat → Int32) × (Nat → Int32) × (Nat → Int32)) => k u.1 u.2.1 u.2.2.1 u.2.2.2.1 u.2.2.2.2.1 u.2.2.2.2.2.1 u.2.2.2.2.2.2.1 u.2.2.2.2.2.2.2.1 u.2.2.2.2.2.2.2.2.1 u.2.2.2.2.2.2.2.2.2.1 u.2.2.2.2.2.2.2.2.2.2.1 u.2.2.2.2.2.2.2.2.2.2.2.1 u.2.2.2.2.2.2.2.2.2.2.2.2.1 u.2.2.2.2.2.2.2.2.2.2.2.2.2.1 u.2.2.2.2.2.2.2.2.2.2.2.2.2.2) (fun (u : Int32 × Int32 × Int32 × Int32 × Int32 × Int32 × Int32 × Int32 × (Nat → Int32) × (Nat → Int32) × (Nat → Int32) × (Nat → Int32) × (Nat → Int32) × (Nat → Int32) × (Nat → Int32)) => WM am ca u.1 u.2.1 M_end M_taped M_size u.2.2.1 u.2.2.2.1 u.2.2.2.2.1 u.2.2.2.2.2.1 u.2.2.2.2.2.2.1 u.2.2.2.2.2.2.2.1 M_isTold M_nodes u.2.2.2.2.2.2.2.2.1 u.2.2.2.2.2.2.2.2.2.1 u.2.2.2.2.2.2.2.2.2.2.1 u.2.2.2.2.2.2.2.2.2.2.2.1 u.2.2.2.2.2.2.2.2.2.2.2.2.1 u.2.2.2.2.2.2.2.2.2.2.2.2.2.1 u.2.2.2.2.2.2.2.2.2.2.2.2.2.2 M_needed M_label M_tape M_of M_kept M_had M_told M_first M_second M_node M_nodeVariable M_nodeLow M_nodeHigh M_wait) 0 0) (F0 m 99 ls [.int t0, .ref (am 0)]) := by
  have hx := C0.1
  have hb := C0.2.1
  intro x1 x2 t0 M_clauses M_given M_at M_to M_sort M_worth M_faultKind M_faultPlace M_plain M_minus M_block M_left M_right M_pivot M_live H locs ls h hw hl
  unfold p_M_readResolvent_J99 at h
  refine lv_iconst (v := 2) hx hb d_M_readResolvent_99 (by decide) ?_
  refine x_callVi C0 hw hl (c_M_need h) g_M_need wm_851 ⟨wm_35, wm_853⟩ 0 rfl rfl rfl (As := [.int t0, .int (2 : Int32)]) (rest := []) rfl rfl (Nat.le_of_ble_eq_true rfl) ⟨rfl, rfl⟩ ⟨Nat.le_of_ble_eq_true rfl, Nat.le_of_ble_eq_true rfl⟩ ⟨Nat.le_of_ble_eq_true rfl, Nat.le_of_ble_eq_true rfl⟩ d_M_readResolvent_100 (fun r_35 u H locs h hw => ?_)
  obtain ⟨M_faultKind_33, M_faultPlace_34⟩ := u
  refine lv_if_ne (tgt := 107) hx hb d_M_readResolvent_103 (by decide) (fun c_36 => ?_) (fun c_36 => ?_)
  · have h := h.1 c_36
    refine lv_iconst (v := 1) hx hb d_M_readResolvent_107 (by decide) ?_
    refine lv_aload_n hx hb d_M_readResolvent_108 rfl (lv_at hl 0 rfl) ?_
    refine x_get C0 hw 0 rfl rfl i_M 18 (by decide) wm_743 rfl rfl d_M_readResolvent_109 ?_
    refine lv_iconst (v := 1) hx hb d_M_readResolvent_112 (by decide) ?_
    refine lv_isub hx hb d_M_readResolvent_113 ?_
    refine lv_ishl hx hb d_M_readResolvent_114 ?_
    refine lv_topi (fun v3_37 e_v3_37 => ?_)
    have h := h v3_37 e_v3_37
    refine lv_istore_n (lv' := [(3, .int v3_37), (0, .ref (am 0)), (1, .int x1), (2, .int x2)]) hx hb d_M_readResolvent_115 rfl hl (by decide) rfl (fun ls hl => ?_)
    refine lv_aload_n hx hb d_M_readResolvent_116 rfl (lv_at hl 1 rfl) ?_
    refine lv_aload_n hx hb d_M_readResolvent_117 rfl (lv_at hl 1 rfl) ?_
    refine x_get C0 hw 0 rfl rfl i_M 0 (by decide) wm_725 rfl rfl d_M_readResolvent_118 ?_
    refine lv_iload_n hx hb d_M_readResolvent_121 rfl (lv_at hl 2 rfl) ?_
    obtain ⟨hi_38, h⟩ := h
    refine x_iald C0 hw 1 rfl hi_38 d_M_readResolvent_122 ?_
    refine lv_iload_n hx hb d_M_readResolvent_123 rfl (lv_at hl 0 rfl) ?_
    refine lv_iand hx hb d_M_readResolvent_124 ?_
    refine lv_if_eq (tgt := 143) hx hb d_M_readResolvent_125 (by decide) (fun c_39 => ?_) (fun c_39 => ?_)
    · have h := h.1 c_39
      refine b_M_readResolvent_J143 C0 _ _ _ _ _ _ _ _ _ _ _ _ _ _ _ _ _ _ h hw (lv_sub hl [1, 2, 3, 0] rfl)
    · have h := h.2 c_39
      refine lv_aload_n hx hb d_M_readResolvent_128 rfl (lv_at hl 1 rfl) ?_
      refine x_get C0 hw 0 rfl rfl i_M 1 (by decide) wm_726 rfl rfl d_M_readResolvent_129 ?_
      refine lv_iload_n hx hb d_M_readResolvent_132 rfl (lv_at hl 3 rfl) ?_
      obtain ⟨hi_76, h⟩ := h
      refine x_iald C0 hw 2 rfl hi_76 d_M_readResolvent_133 ?_
      refine lv_iload_n hx hb d_M_readResolvent_134 rfl (lv_at hl 0 rfl) ?_
      refine lv_iand hx hb d_M_readResolvent_135 ?_
      refine lv_if_eq (tgt := 143) hx hb d_M_readResolvent_136 (by decide) (fun c_77 => ?_) (fun c_77 => ?_)
      · have h := h.1 c_77
        refine b_M_readResolvent_J143 C0 _ _ _ _ _ _ _ _ _ _ _ _ _ _ _ _ _ _ h hw (lv_sub hl [1, 2, 3, 0] rfl)
      · have h := h.2 c_77
        refine lv_iconst (v := 1) hx hb d_M_readResolvent_139 (by decide) ?_
        refine lv_goto (tgt := 144) hx hb d_M_readResolvent_140 (by decide) ?_
        refine b_M_readResolvent_J144 C0 _ _ _ _ _ _ _ _ _ _ _ _ _ _ _ _ _ _ _ h hw (lv_sub hl [1, 2, 3, 0] rfl)
  · have h := h.2 c_36
    exact x_vret C0 hw (M_clauses, M_given, M_at, M_to, M_sort, M_worth, M_faultKind_33, M_faultPlace_34, M_plain, M_minus, M_block, M_left, M_right, M_pivot, M_live) h rfl d_M_readResolvent_106
set_option maxHeartbeats 4000000 in
set_option maxRecDepth 100000 in
theorem b_M_readResolvent_J98 {p : Program} {l : Launch} {e : Env} {s : State} {m : MethodId} {args : Array Value} {below : List Frame} {meth : Method} {c : Code} {D : va_G} {ca : Nat → ClassId} {tp : Nat} {A : Nat → Prop} {am : Nat → Nat} {M_end : Int32} {M_taped : Int32} {M_size : Int32} {M_isTold : Int32} {M_nodes : Int32} {M_needed : Nat → Int32} {M_label : Nat → Int32} {M_tape : Nat → Int32} {M_of : Nat → Int64} {M_kept : Nat → Int64} {M_had : Nat → Int32} {M_told : Nat → Int64} {M_first : Nat → Int64} {M_second : Nat → Int64} {M_node : Nat → Int64} {M_nodeVariable : Nat → Int32} {M_nodeLow : Nat → Int32} {M_nodeHigh : Nat → Int32} {M_wait : Nat → Int32}  {k : Int32 → Int32 → Int32 → Int32 → Int32 → Int32 → Int32 → Int32 → (Nat → Int32) → (Nat → Int32) → (Nat → Int32) → (Nat → Int32) → (Nat → Int32) → (Nat → Int32) → (Nat → Int32) → Prop}  (C0 : CX p s m args meth c b_M_readResolvent 7 none R_M "readResolvent" D ca tp A) :
    ∀ (x1 : Int32) (x2 : Int32) (M_clauses : Int32) (M_given : Int32) (M_at : Int32) (M_to : Int32) (M_sort : Int32) (M_worth : Int32) (M_faultKind : Int32) (M_faultPlace : Int32) (M_plain : Nat → Int32) (M_minus : Nat → Int32) (M_block : Nat → Int32) (M_left : Nat → Int32) (M_right : Nat → Int32) (M_pivot : Nat → Int32) (M_live : Nat → Int32) {H : Heap} {locs : List Loc} {ls : Array Slot}, p_M_readResolvent_J98 M_size M_tape k x1 x2 M_clauses M_given M_at M_to M_sort M_worth M_faultKind M_faultPlace M_plain M_minus M_block M_left M_right M_pivot M_live → WH D A s (WM am ca M_clauses M_given M_end M_taped M_size M_at M_to M_sort M_worth M_faultKind M_faultPlace M_isTold M_nodes M_plain M_minus M_block M_left M_right M_pivot M_live M_needed M_label M_tape M_of M_kept M_had M_told M_first M_second M_node M_nodeVariable M_nodeLow M_nodeHigh M_wait) H locs → lv_has ls 7 [(0, .ref (am 0)), (1, .int x1), (2, .int x2)] →
      W p l e rm_M_readResolvent s m args below meth c H locs 0 0 (QV D A below args s (fun (u : Int32 × Int32 × Int32 × Int32 × Int32 × Int32 × Int32 × Int32 × (Nat → Int32) × (Nat → Int32) × (Nat → Int32) × (Nat → Int32) × (Nat → Int32) × (Nat → Int32) × (Nat → Int32)) => k u.1 u.2.1 u.2.2.1 u.2.2.2.1 u.2.2.2.2.1 u.2.2.2.2.2.1 u.2.2.2.2.2.2.1 u.2.2.2.2.2.2.2.1 u.2.2.2.2.2.2.2.2.1 u.2.2.2.2.2.2.2.2.2.1 u.2.2.2.2.2.2.2.2.2.2.1 u.2.2.2.2.2.2.2.2.2.2.2.1 u.2.2.2.2.2.2.2.2.2.2.2.2.1 u.2.2.2.2.2.2.2.2.2.2.2.2.2.1 u.2.2.2.2.2.2.2.2.2.2.2.2.2.2) (fun (u : Int32 × Int32 × Int32 × Int32 × Int32 × Int32 × Int32 × Int32 × (Nat → Int32) × (Nat → Int32) × (Nat → Int32) × (Nat → Int32) × (Nat → Int32) × (Nat → Int32) × (Nat → Int32)) => WM am ca u.1 u.2.1 M_end M_taped M_size u.2.2.1 u.2.2.2.1 u.2.2.2.2.1 u.2.2.2.2.2.1 u.2.2.2.2.2.2.1 u.2.2.2.2.2.2.2.1 M_isTold M_nodes u.2.2.2.2.2.2.2.2.1 u.2.2.2.2.2.2.2.2.2.1 u.2.2.2.2.2.2.2.2.2.2.1 u.2.2.2.2.2.2.2.2.2.2.2.1 u.2.2.2.2.2.2.2.2.2.2.2.2.1 u.2.2.2.2.2.2.2.2.2.2.2.2.2.1 u.2.2.2.2.2.2.2.2.2.2.2.2.2.2 M_needed M_label M_tape M_of M_kept M_had M_told M_first M_second M_node M_nodeVariable M_nodeLow M_nodeHigh M_wait) 0 0) (F0 m 98 ls [.ref (am 0)]) := by
  have hx := C0.1
  have hb := C0.2.1
  intro x1 x2 M_clauses M_given M_at M_to M_sort M_worth M_faultKind M_faultPlace M_plain M_minus M_block M_left M_right M_pivot M_live H locs ls h hw hl
  unfold p_M_readResolvent_J98 at h
  refine lv_iconst (v := 0) hx hb d_M_readResolvent_98 (by decide) ?_
  refine b_M_readResolvent_J99 C0 _ _ _ _ _ _ _ _ _ _ _ _ _ _ _ _ _ _ h hw (lv_sub hl [0, 1, 2] rfl)
set_option maxHeartbeats 4000000 in
set_option maxRecDepth 100000 in
theorem b_M_readResolvent_J69 {p : Program} {l : Launch} {e : Env} {s : State} {m : MethodId} {args : Array Value} {below : List Frame} {meth : Method} {c : Code} {D : va_G} {ca : Nat → ClassId} {tp : Nat} {A : Nat → Prop} {am : Nat → Nat} {M_end : Int32} {M_taped : Int32} {M_size : Int32} {M_isTold : Int32} {M_nodes : Int32} {M_needed : Nat → Int32} {M_label : Nat → Int32} {M_tape : Nat → Int32} {M_of : Nat → Int64} {M_kept : Nat → Int64} {M_had : Nat → Int32} {M_told : Nat → Int64} {M_first : Nat → Int64} {M_second : Nat → Int64} {M_node : Nat → Int64} {M_nodeVariable : Nat → Int32} {M_nodeLow : Nat → Int32} {M_nodeHigh : Nat → Int32} {M_wait : Nat → Int32}  {k : Int32 → Int32 → Int32 → Int32 → Int32 → Int32 → Int32 → Int32 → (Nat → Int32) → (Nat → Int32) → (Nat → Int32) → (Nat → Int32) → (Nat → Int32) → (Nat → Int32) → (Nat → Int32) → Prop}  (C0 : CX p s m args meth c b_M_readResolvent 7 none R_M "readResolvent" D ca tp A) :
    ∀ (x1 : Int32) (x2 : Int32) (t0 : Int32) (M_clauses : Int32) (M_given : Int32) (M_at : Int32) (M_to : Int32) (M_sort : Int32) (M_worth : Int32) (M_faultKind : Int32) (M_faultPlace : Int32) (M_plain : Nat → Int32) (M_minus : Nat → Int32) (M_block : Nat → Int32) (M_left : Nat → Int32) (M_right : Nat → Int32) (M_pivot : Nat → Int32) (M_live : Nat → Int32) {H : Heap} {locs : List Loc} {ls : Array Slot}, p_M_readResolvent_J69 M_size M_tape k x1 x2 t0 M_clauses M_given M_at M_to M_sort M_worth M_faultKind M_faultPlace M_plain M_minus M_block M_left M_right M_pivot M_live → WH D A s (WM am ca M_clauses M_given M_end M_taped M_size M_at M_to M_sort M_worth M_faultKind M_faultPlace M_isTold M_nodes M_plain M_minus M_block M_left M_right M_pivot M_live M_needed M_label M_tape M_of M_kept M_had M_told M_first M_second M_node M_nodeVariable M_nodeLow M_nodeHigh M_wait) H locs → lv_has ls 7 [(0, .ref (am 0)), (1, .int x1), (2, .int x2)] →
      W p l e rm_M_readResolvent s m args below meth c H locs 0 0 (QV D A below args s (fun (u : Int32 × Int32 × Int32 × Int32 × Int32 × Int32 × Int32 × Int32 × (Nat → Int32) × (Nat → Int32) × (Nat → Int32) × (Nat → Int32) × (Nat → Int32) × (Nat → Int32) × (Nat → Int32)) => k u.1 u.2.1 u.2.2.1 u.2.2.2.1 u.2.2.2.2.1 u.2.2.2.2.2.1 u.2.2.2.2.2.2.1 u.2.2.2.2.2.2.2.1 u.2.2.2.2.2.2.2.2.1 u.2.2.2.2.2.2.2.2.2.1 u.2.2.2.2.2.2.2.2.2.2.1 u.2.2.2.2.2.2.2.2.2.2.2.1 u.2.2.2.2.2.2.2.2.2.2.2.2.1 u.2.2.2.2.2.2.2.2.2.2.2.2.2.1 u.2.2.2.2.2.2.2.2.2.2.2.2.2.2) (fun (u : Int32 × Int32 × Int32 × Int32 × Int32 × Int32 × Int32 × Int32 × (Nat → Int32) × (Nat → Int32) × (Nat → Int32) × (Nat → Int32) × (Nat → Int32) × (Nat → Int32) × (Nat → Int32)) => WM am ca u.1 u.2.1 M_end M_taped M_size u.2.2.1 u.2.2.2.1 u.2.2.2.2.1 u.2.2.2.2.2.1 u.2.2.2.2.2.2.1 u.2.2.2.2.2.2.2.1 M_isTold M_nodes u.2.2.2.2.2.2.2.2.1 u.2.2.2.2.2.2.2.2.2.1 u.2.2.2.2.2.2.2.2.2.2.1 u.2.2.2.2.2.2.2.2.2.2.2.1 u.2.2.2.2.2.2.2.2.2.2.2.2.1 u.2.2.2.2.2.2.2.2.2.2.2.2.2.1 u.2.2.2.2.2.2.2.2.2.2.2.2.2.2 M_needed M_label M_tape M_of M_kept M_had M_told M_first M_second M_node M_nodeVariable M_nodeLow M_nodeHigh M_wait) 0 0) (F0 m 69 ls [.int t0, .ref (am 0)]) := by
  have hx := C0.1
  have hb := C0.2.1
  intro x1 x2 t0 M_clauses M_given M_at M_to M_sort M_worth M_faultKind M_faultPlace M_plain M_minus M_block M_left M_right M_pivot M_live H locs ls h hw hl
  unfold p_M_readResolvent_J69 at h
  refine lv_iconst (v := 1) hx hb d_M_readResolvent_69 (by decide) ?_
  refine x_callVi C0 hw hl (c_M_need h) g_M_need wm_851 ⟨wm_35, wm_853⟩ 0 rfl rfl rfl (As := [.int t0, .int (1 : Int32)]) (rest := []) rfl rfl (Nat.le_of_ble_eq_true rfl) ⟨rfl, rfl⟩ ⟨Nat.le_of_ble_eq_true rfl, Nat.le_of_ble_eq_true rfl⟩ ⟨Nat.le_of_ble_eq_true rfl, Nat.le_of_ble_eq_true rfl⟩ d_M_readResolvent_70 (fun r_30 u H locs h hw => ?_)
  obtain ⟨M_faultKind_28, M_faultPlace_29⟩ := u
  refine lv_if_eq (tgt := 106) hx hb d_M_readResolvent_73 (by decide) (fun c_31 => ?_) (fun c_31 => ?_)
  · have h := h.1 c_31
    exact x_vret C0 hw (M_clauses, M_given, M_at, M_to, M_sort, M_worth, M_faultKind_28, M_faultPlace_29, M_plain, M_minus, M_block, M_left, M_right, M_pivot, M_live) h rfl d_M_readResolvent_106
  · have h := h.2 c_31
    refine lv_aload_n hx hb d_M_readResolvent_76 rfl (lv_at hl 0 rfl) ?_
    refine lv_aload_n hx hb d_M_readResolvent_77 rfl (lv_at hl 0 rfl) ?_
    refine x_get C0 hw 0 rfl rfl i_M 18 (by decide) wm_743 rfl rfl d_M_readResolvent_78 ?_
    refine lv_iconst (v := 1) hx hb d_M_readResolvent_81 (by decide) ?_
    refine lv_icmp_lt (tgt := 98) hx hb d_M_readResolvent_82 (by decide) (fun c_32 => ?_) (fun c_32 => ?_)
    · have h := h.1 c_32
      refine b_M_readResolvent_J98 C0 _ _ _ _ _ _ _ _ _ _ _ _ _ _ _ _ _ h hw (lv_sub hl [0, 1, 2] rfl)
    · have h := h.2 c_32
      refine lv_aload_n hx hb d_M_readResolvent_85 rfl (lv_at hl 0 rfl) ?_
      refine x_get C0 hw 0 rfl rfl i_M 18 (by decide) wm_743 rfl rfl d_M_readResolvent_86 ?_
      refine lv_bipush (v := 10) hx hb d_M_readResolvent_89 (by decide) ?_
      refine lv_icmp_gt (tgt := 98) hx hb d_M_readResolvent_91 (by decide) (fun c_78 => ?_) (fun c_78 => ?_)
      · have h := h.1 c_78
        refine b_M_readResolvent_J98 C0 _ _ _ _ _ _ _ _ _ _ _ _ _ _ _ _ _ h hw (lv_sub hl [0, 1, 2] rfl)
      · have h := h.2 c_78
        refine lv_iconst (v := 1) hx hb d_M_readResolvent_94 (by decide) ?_
        refine lv_goto (tgt := 99) hx hb d_M_readResolvent_95 (by decide) ?_
        refine b_M_readResolvent_J99 C0 _ _ _ _ _ _ _ _ _ _ _ _ _ _ _ _ _ _ h hw (lv_sub hl [0, 1, 2] rfl)
set_option maxHeartbeats 4000000 in
set_option maxRecDepth 100000 in
theorem b_M_readResolvent_J16 {p : Program} {l : Launch} {e : Env} {s : State} {m : MethodId} {args : Array Value} {below : List Frame} {meth : Method} {c : Code} {D : va_G} {ca : Nat → ClassId} {tp : Nat} {A : Nat → Prop} {am : Nat → Nat} {M_end : Int32} {M_taped : Int32} {M_size : Int32} {M_isTold : Int32} {M_nodes : Int32} {M_needed : Nat → Int32} {M_label : Nat → Int32} {M_tape : Nat → Int32} {M_of : Nat → Int64} {M_kept : Nat → Int64} {M_had : Nat → Int32} {M_told : Nat → Int64} {M_first : Nat → Int64} {M_second : Nat → Int64} {M_node : Nat → Int64} {M_nodeVariable : Nat → Int32} {M_nodeLow : Nat → Int32} {M_nodeHigh : Nat → Int32} {M_wait : Nat → Int32}  {k : Int32 → Int32 → Int32 → Int32 → Int32 → Int32 → Int32 → Int32 → (Nat → Int32) → (Nat → Int32) → (Nat → Int32) → (Nat → Int32) → (Nat → Int32) → (Nat → Int32) → (Nat → Int32) → Prop}  (C0 : CX p s m args meth c b_M_readResolvent 7 none R_M "readResolvent" D ca tp A) :
    ∀ (t0 : Int32) (M_clauses : Int32) (M_given : Int32) (M_at : Int32) (M_to : Int32) (M_sort : Int32) (M_worth : Int32) (M_faultKind : Int32) (M_faultPlace : Int32) (M_plain : Nat → Int32) (M_minus : Nat → Int32) (M_block : Nat → Int32) (M_left : Nat → Int32) (M_right : Nat → Int32) (M_pivot : Nat → Int32) (M_live : Nat → Int32) {H : Heap} {locs : List Loc} {ls : Array Slot}, p_M_readResolvent_J16 M_size M_tape k t0 M_clauses M_given M_at M_to M_sort M_worth M_faultKind M_faultPlace M_plain M_minus M_block M_left M_right M_pivot M_live → WH D A s (WM am ca M_clauses M_given M_end M_taped M_size M_at M_to M_sort M_worth M_faultKind M_faultPlace M_isTold M_nodes M_plain M_minus M_block M_left M_right M_pivot M_live M_needed M_label M_tape M_of M_kept M_had M_told M_first M_second M_node M_nodeVariable M_nodeLow M_nodeHigh M_wait) H locs → lv_has ls 7 [(0, .ref (am 0))] →
      W p l e rm_M_readResolvent s m args below meth c H locs 0 0 (QV D A below args s (fun (u : Int32 × Int32 × Int32 × Int32 × Int32 × Int32 × Int32 × Int32 × (Nat → Int32) × (Nat → Int32) × (Nat → Int32) × (Nat → Int32) × (Nat → Int32) × (Nat → Int32) × (Nat → Int32)) => k u.1 u.2.1 u.2.2.1 u.2.2.2.1 u.2.2.2.2.1 u.2.2.2.2.2.1 u.2.2.2.2.2.2.1 u.2.2.2.2.2.2.2.1 u.2.2.2.2.2.2.2.2.1 u.2.2.2.2.2.2.2.2.2.1 u.2.2.2.2.2.2.2.2.2.2.1 u.2.2.2.2.2.2.2.2.2.2.2.1 u.2.2.2.2.2.2.2.2.2.2.2.2.1 u.2.2.2.2.2.2.2.2.2.2.2.2.2.1 u.2.2.2.2.2.2.2.2.2.2.2.2.2.2) (fun (u : Int32 × Int32 × Int32 × Int32 × Int32 × Int32 × Int32 × Int32 × (Nat → Int32) × (Nat → Int32) × (Nat → Int32) × (Nat → Int32) × (Nat → Int32) × (Nat → Int32) × (Nat → Int32)) => WM am ca u.1 u.2.1 M_end M_taped M_size u.2.2.1 u.2.2.2.1 u.2.2.2.2.1 u.2.2.2.2.2.1 u.2.2.2.2.2.2.1 u.2.2.2.2.2.2.2.1 M_isTold M_nodes u.2.2.2.2.2.2.2.2.1 u.2.2.2.2.2.2.2.2.2.1 u.2.2.2.2.2.2.2.2.2.2.1 u.2.2.2.2.2.2.2.2.2.2.2.1 u.2.2.2.2.2.2.2.2.2.2.2.2.1 u.2.2.2.2.2.2.2.2.2.2.2.2.2.1 u.2.2.2.2.2.2.2.2.2.2.2.2.2.2 M_needed M_label M_tape M_of M_kept M_had M_told M_first M_second M_node M_nodeVariable M_nodeLow M_nodeHigh M_wait) 0 0) (F0 m 16 ls [.int t0, .ref (am 0)]) := by
  have hx := C0.1
  have hb := C0.2.1
  intro t0 M_clauses M_given M_at M_to M_sort M_worth M_faultKind M_faultPlace M_plain M_minus M_block M_left M_right M_pivot M_live H locs ls h hw hl
  unfold p_M_readResolvent_J16 at h
  refine lv_bipush (v := 6) hx hb d_M_readResolvent_16 (by decide) ?_
  refine x_callVi C0 hw hl (c_M_need h) g_M_need wm_851 ⟨wm_35, wm_853⟩ 0 rfl rfl rfl (As := [.int t0, .int (6 : Int32)]) (rest := []) rfl rfl (Nat.le_of_ble_eq_true rfl) ⟨rfl, rfl⟩ ⟨Nat.le_of_ble_eq_true rfl, Nat.le_of_ble_eq_true rfl⟩ ⟨Nat.le_of_ble_eq_true rfl, Nat.le_of_ble_eq_true rfl⟩ d_M_readResolvent_18 (fun r_4 u H locs h hw => ?_)
  obtain ⟨M_faultKind_2, M_faultPlace_3⟩ := u
  refine lv_if_ne (tgt := 25) hx hb d_M_readResolvent_21 (by decide) (fun c_5 => ?_) (fun c_5 => ?_)
  · have h := h.1 c_5
    refine lv_aload_n hx hb d_M_readResolvent_25 rfl (lv_at hl 0 rfl) ?_
    refine x_callVv C0 hw hl (c_M_cut h) g_M_cut wm_840 ⟨wm_33, wm_842⟩ 0 rfl rfl rfl (As := []) (rest := []) rfl rfl (Nat.le_of_ble_eq_true rfl) ⟨rfl, rfl⟩ ⟨Nat.le_of_ble_eq_true rfl, Nat.le_of_ble_eq_true rfl⟩ ⟨Nat.le_of_ble_eq_true rfl, Nat.le_of_ble_eq_true rfl⟩ d_M_readResolvent_26 (fun u H locs h hw => ?_)
    obtain ⟨M_at_6, M_to_7, M_sort_8, M_worth_9⟩ := u
    refine lv_aload_n hx hb d_M_readResolvent_29 rfl (lv_at hl 0 rfl) ?_
    refine x_callVi C0 hw hl (c_M_clauseHere h) g_M_clauseHere wm_867 ⟨wm_39, wm_869⟩ 0 rfl rfl rfl (As := []) (rest := []) rfl rfl (Nat.le_of_ble_eq_true rfl) ⟨rfl, rfl⟩ ⟨Nat.le_of_ble_eq_true rfl, Nat.le_of_ble_eq_true rfl⟩ ⟨Nat.le_of_ble_eq_true rfl, Nat.le_of_ble_eq_true rfl⟩ d_M_readResolvent_30 (fun r_17 u H locs h hw => ?_)
    obtain ⟨M_at_11, M_to_12, M_sort_13, M_worth_14, M_faultKind_15, M_faultPlace_16⟩ := u
    refine lv_istore_n (lv' := [(1, .int r_17), (0, .ref (am 0))]) hx hb d_M_readResolvent_33 rfl hl (by decide) rfl (fun ls hl => ?_)
    refine lv_aload_n hx hb d_M_readResolvent_34 rfl (lv_at hl 1 rfl) ?_
    refine x_get C0 hw 0 rfl rfl i_M 19 (by decide) wm_744 rfl rfl d_M_readResolvent_35 ?_
    refine lv_if_le (tgt := 42) hx hb d_M_readResolvent_38 (by decide) (fun c_18 => ?_) (fun c_18 => ?_)
    · have h := h.1 c_18
      refine lv_aload_n hx hb d_M_readResolvent_42 rfl (lv_at hl 1 rfl) ?_
      refine x_callVi C0 hw hl (c_M_clauseHere h) g_M_clauseHere wm_867 ⟨wm_39, wm_869⟩ 0 rfl rfl rfl (As := []) (rest := []) rfl rfl (Nat.le_of_ble_eq_true rfl) ⟨rfl, rfl⟩ ⟨Nat.le_of_ble_eq_true rfl, Nat.le_of_ble_eq_true rfl⟩ ⟨Nat.le_of_ble_eq_true rfl, Nat.le_of_ble_eq_true rfl⟩ d_M_readResolvent_43 (fun r_25 u H locs h hw => ?_)
      obtain ⟨M_at_19, M_to_20, M_sort_21, M_worth_22, M_faultKind_23, M_faultPlace_24⟩ := u
      refine lv_istore_n (lv' := [(2, .int r_25), (1, .int r_17), (0, .ref (am 0))]) hx hb d_M_readResolvent_46 rfl hl (by decide) rfl (fun ls hl => ?_)
      refine lv_aload_n hx hb d_M_readResolvent_47 rfl (lv_at hl 2 rfl) ?_
      refine x_get C0 hw 0 rfl rfl i_M 19 (by decide) wm_744 rfl rfl d_M_readResolvent_48 ?_
      refine lv_if_le (tgt := 55) hx hb d_M_readResolvent_51 (by decide) (fun c_26 => ?_) (fun c_26 => ?_)
      · have h := h.1 c_26
        refine lv_aload_n hx hb d_M_readResolvent_55 rfl (lv_at hl 2 rfl) ?_
        refine lv_aload_n hx hb d_M_readResolvent_56 rfl (lv_at hl 2 rfl) ?_
        refine x_get C0 hw 0 rfl rfl i_M 17 (by decide) wm_742 rfl rfl d_M_readResolvent_57 ?_
        refine lv_iconst (v := 1) hx hb d_M_readResolvent_60 (by decide) ?_
        refine lv_icmp_ne (tgt := 68) hx hb d_M_readResolvent_61 (by decide) (fun c_27 => ?_) (fun c_27 => ?_)
        · have h := h.1 c_27
          refine lv_iconst (v := 0) hx hb d_M_readResolvent_68 (by decide) ?_
          refine b_M_readResolvent_J69 C0 _ _ _ _ _ _ _ _ _ _ _ _ _ _ _ _ _ _ h hw (lv_sub hl [2, 1, 0] rfl)
        · have h := h.2 c_27
          refine lv_iconst (v := 1) hx hb d_M_readResolvent_64 (by decide) ?_
          refine lv_goto (tgt := 69) hx hb d_M_readResolvent_65 (by decide) ?_
          refine b_M_readResolvent_J69 C0 _ _ _ _ _ _ _ _ _ _ _ _ _ _ _ _ _ _ h hw (lv_sub hl [2, 1, 0] rfl)
      · have h := h.2 c_26
        exact x_vret C0 hw (M_clauses, M_given, M_at_19, M_to_20, M_sort_21, M_worth_22, M_faultKind_23, M_faultPlace_24, M_plain, M_minus, M_block, M_left, M_right, M_pivot, M_live) h rfl d_M_readResolvent_54
    · have h := h.2 c_18
      exact x_vret C0 hw (M_clauses, M_given, M_at_11, M_to_12, M_sort_13, M_worth_14, M_faultKind_15, M_faultPlace_16, M_plain, M_minus, M_block, M_left, M_right, M_pivot, M_live) h rfl d_M_readResolvent_41
  · have h := h.2 c_5
    exact x_vret C0 hw (M_clauses, M_given, M_at, M_to, M_sort, M_worth, M_faultKind_2, M_faultPlace_3, M_plain, M_minus, M_block, M_left, M_right, M_pivot, M_live) h rfl d_M_readResolvent_24
set_option maxHeartbeats 4000000 in
set_option maxRecDepth 100000 in
theorem c_M_readResolvent {l : Launch} {D : va_G} {ca : Nat → ClassId} {tp : Nat} {am : Nat → Nat} {M_clauses : Int32} {M_given : Int32} {M_end : Int32} {M_taped : Int32} {M_size : Int32} {M_at : Int32} {M_to : Int32} {M_sort : Int32} {M_worth : Int32} {M_faultKind : Int32} {M_faultPlace : Int32} {M_isTold : Int32} {M_nodes : Int32} {M_plain : Nat → Int32} {M_minus : Nat → Int32} {M_block : Nat → Int32} {M_left : Nat → Int32} {M_right : Nat → Int32} {M_pivot : Nat → Int32} {M_live : Nat → Int32} {M_needed : Nat → Int32} {M_label : Nat → Int32} {M_tape : Nat → Int32} {M_of : Nat → Int64} {M_kept : Nat → Int64} {M_had : Nat → Int32} {M_told : Nat → Int64} {M_first : Nat → Int64} {M_second : Nat → Int64} {M_node : Nat → Int64} {M_nodeVariable : Nat → Int32} {M_nodeLow : Nat → Int32} {M_nodeHigh : Nat → Int32} {M_wait : Nat → Int32}  {k : Int32 → Int32 → Int32 → Int32 → Int32 → Int32 → Int32 → Int32 → (Nat → Int32) → (Nat → Int32) → (Nat → Int32) → (Nat → Int32) → (Nat → Int32) → (Nat → Int32) → (Nat → Int32) → Prop} (h : p_M_readResolvent M_clauses M_given M_size M_at M_to M_sort M_worth M_faultKind M_faultPlace M_plain M_minus M_block M_left M_right M_pivot M_live M_tape k) :
    MTv l y_M_readResolvent b_M_readResolvent 7 none rm_M_readResolvent D ca tp [.ref (am 0)] (WM am ca M_clauses M_given M_end M_taped M_size M_at M_to M_sort M_worth M_faultKind M_faultPlace M_isTold M_nodes M_plain M_minus M_block M_left M_right M_pivot M_live M_needed M_label M_tape M_of M_kept M_had M_told M_first M_second M_node M_nodeVariable M_nodeLow M_nodeHigh M_wait)
      (fun (u : Int32 × Int32 × Int32 × Int32 × Int32 × Int32 × Int32 × Int32 × (Nat → Int32) × (Nat → Int32) × (Nat → Int32) × (Nat → Int32) × (Nat → Int32) × (Nat → Int32) × (Nat → Int32)) => k u.1 u.2.1 u.2.2.1 u.2.2.2.1 u.2.2.2.2.1 u.2.2.2.2.2.1 u.2.2.2.2.2.2.1 u.2.2.2.2.2.2.2.1 u.2.2.2.2.2.2.2.2.1 u.2.2.2.2.2.2.2.2.2.1 u.2.2.2.2.2.2.2.2.2.2.1 u.2.2.2.2.2.2.2.2.2.2.2.1 u.2.2.2.2.2.2.2.2.2.2.2.2.1 u.2.2.2.2.2.2.2.2.2.2.2.2.2.1 u.2.2.2.2.2.2.2.2.2.2.2.2.2.2)
      (fun (u : Int32 × Int32 × Int32 × Int32 × Int32 × Int32 × Int32 × Int32 × (Nat → Int32) × (Nat → Int32) × (Nat → Int32) × (Nat → Int32) × (Nat → Int32) × (Nat → Int32) × (Nat → Int32)) => WM am ca u.1 u.2.1 M_end M_taped M_size u.2.2.1 u.2.2.2.1 u.2.2.2.2.1 u.2.2.2.2.2.1 u.2.2.2.2.2.2.1 u.2.2.2.2.2.2.2.1 M_isTold M_nodes u.2.2.2.2.2.2.2.2.1 u.2.2.2.2.2.2.2.2.2.1 u.2.2.2.2.2.2.2.2.2.2.1 u.2.2.2.2.2.2.2.2.2.2.2.1 u.2.2.2.2.2.2.2.2.2.2.2.2.1 u.2.2.2.2.2.2.2.2.2.2.2.2.2.1 u.2.2.2.2.2.2.2.2.2.2.2.2.2.2 M_needed M_label M_tape M_of M_kept M_had M_told M_first M_second M_node M_nodeVariable M_nodeLow M_nodeHigh M_wait) 0 0 := by
  refine x_entryv (own := R_M) (nm := "readResolvent") (by decide) rfl rfl (Nat.le_of_ble_eq_true rfl) (fun p e s m below meth c A ls C0 hw hl => ?_)
  have hx := C0.1
  have hb := C0.2.1
  have hl : lv_has ls 7 [(0, .ref (am 0))] := hl
  unfold p_M_readResolvent at h
  refine lv_aload_n hx hb d_M_readResolvent_0 rfl (lv_at hl 0 rfl) ?_
  refine lv_aload_n hx hb d_M_readResolvent_1 rfl (lv_at hl 0 rfl) ?_
  refine x_get C0 hw 0 rfl rfl i_M 8 (by decide) wm_733 rfl rfl d_M_readResolvent_2 ?_
  refine lv_sipush (v := 200) hx hb d_M_readResolvent_5 (by decide) ?_
  refine lv_icmp_ge (tgt := 15) hx hb d_M_readResolvent_8 (by decide) (fun c_1 => ?_) (fun c_1 => ?_)
  · have h := h.1 c_1
    refine lv_iconst (v := 0) hx hb d_M_readResolvent_15 (by decide) ?_
    refine b_M_readResolvent_J16 C0 _ _ _ _ _ _ _ _ _ _ _ _ _ _ _ _ h hw (lv_sub hl [0] rfl)
  · have h := h.2 c_1
    refine lv_iconst (v := 1) hx hb d_M_readResolvent_11 (by decide) ?_
    refine lv_goto (tgt := 16) hx hb d_M_readResolvent_12 (by decide) ?_
    refine b_M_readResolvent_J16 C0 _ _ _ _ _ _ _ _ _ _ _ _ _ _ _ _ h hw (lv_sub hl [0] rfl)
theorem g_M_find : GY y_M_find b_M_find 2 none 0 := ⟨wm_874, wm_62, by decide +kernel, by decide +kernel, by decide +kernel⟩
def p_M_find_L10 (M_end : Int32) (k42 : (Nat → Int32) → Prop) : Nat → Int32 → (Nat → Int32) → Prop
  | 0, _, _ => False
  | n + 1, x1, M_needed =>
    (((202 : Int32) ≤ x1 → (k42 M_needed)) ∧ (¬ (202 : Int32) ≤ x1 → ((¬ x1 = M_end → (vp_in x1 202 ∧ (p_M_find_L10 M_end k42 n (x1 + 1) (upd M_needed x1.toNatClampNeg (0 : Int32))))) ∧ (x1 = M_end → (vp_in x1 202 ∧ (p_M_find_L10 M_end k42 n (x1 + 1) (upd M_needed x1.toNatClampNeg (1 : Int32))))))))
def p_M_find_L47 (M_end : Int32) (M_block : Nat → Int32) (M_left : Nat → Int32) (M_right : Nat → Int32) (k : Int32 → (Nat → Int32) → Prop) : Nat → Int32 → (Nat → Int32) → Prop
  | 0, _, _ => False
  | n + 1, x1, M_needed =>
    ((x1 ≤ 0 → (k M_end M_needed)) ∧ (¬ x1 ≤ 0 → (vp_in x1 202 ∧ (((M_needed x1.toNatClampNeg) = 0 → (p_M_find_L47 M_end M_block M_left M_right k n (x1 + (-1)) M_needed)) ∧ (¬ (M_needed x1.toNatClampNeg) = 0 → (((M_block x1.toNatClampNeg) ≤ 0 → (vp_in (M_left x1.toNatClampNeg) 202 ∧ (vp_in (M_right x1.toNatClampNeg) 202 ∧ (p_M_find_L47 M_end M_block M_left M_right k n (x1 + (-1)) (upd (upd M_needed (M_left x1.toNatClampNeg).toNatClampNeg (1 : Int32)) (M_right x1.toNatClampNeg).toNatClampNeg (1 : Int32)))))) ∧ (¬ (M_block x1.toNatClampNeg) ≤ 0 → (p_M_find_L47 M_end M_block M_left M_right k n (x1 + (-1)) M_needed))))))))
def p_M_find (M_clauses : Int32) (M_plain : Nat → Int32) (M_minus : Nat → Int32) (M_block : Nat → Int32) (M_left : Nat → Int32) (M_right : Nat → Int32) (M_needed : Nat → Int32) (k : Int32 → (Nat → Int32) → Prop) : Prop :=
  (p_M_empty M_clauses M_plain M_minus (fun (r_1 : Int32) => (∃ j_14, p_M_find_L10 r_1 (fun (M_needed_6 : Nat → Int32) => (∃ j_13, p_M_find_L47 r_1 M_block M_left M_right k j_13 M_clauses M_needed_6)) j_14 (0 : Int32) M_needed)))
abbrev rm_M_find : Room := { frames := 1, cells := 0, slots := 0, locals := 21 }
set_option maxHeartbeats 4000000 in
set_option maxRecDepth 100000 in
theorem b_M_find_L10 {p : Program} {l : Launch} {e : Env} {s : State} {m : MethodId} {args : Array Value} {below : List Frame} {meth : Method} {c : Code} {D : va_G} {ca : Nat → ClassId} {tp : Nat} {A : Nat → Prop} {am : Nat → Nat} {M_clauses : Int32} {M_given : Int32} {M_end : Int32} {M_taped : Int32} {M_size : Int32} {M_at : Int32} {M_to : Int32} {M_sort : Int32} {M_worth : Int32} {M_faultKind : Int32} {M_faultPlace : Int32} {M_isTold : Int32} {M_nodes : Int32} {M_plain : Nat → Int32} {M_minus : Nat → Int32} {M_block : Nat → Int32} {M_left : Nat → Int32} {M_right : Nat → Int32} {M_pivot : Nat → Int32} {M_live : Nat → Int32} {M_label : Nat → Int32} {M_tape : Nat → Int32} {M_of : Nat → Int64} {M_kept : Nat → Int64} {M_had : Nat → Int32} {M_told : Nat → Int64} {M_first : Nat → Int64} {M_second : Nat → Int64} {M_node : Nat → Int64} {M_nodeVariable : Nat → Int32} {M_nodeLow : Nat → Int32} {M_nodeHigh : Nat → Int32} {M_wait : Nat → Int32}  {k : Int32 → (Nat → Int32) → Prop} {k42 : (Nat → Int32) → Prop} (C0 : CX p s m args meth c b_M_find 2 none R_M "find" D ca tp A) :
    ∀ (n : Nat) (x1 : Int32) (M_needed : Nat → Int32) {H : Heap} {locs : List Loc} {ls : Array Slot}, p_M_find_L10 M_end k42 n x1 M_needed → WH D A s (WM am ca M_clauses M_given M_end M_taped M_size M_at M_to M_sort M_worth M_faultKind M_faultPlace M_isTold M_nodes M_plain M_minus M_block M_left M_right M_pivot M_live M_needed M_label M_tape M_of M_kept M_had M_told M_first M_second M_node M_nodeVariable M_nodeLow M_nodeHigh M_wait) H locs → lv_has ls 2 [(0, .ref (am 0)), (1, .int x1)] →
      (∀ (M_needed : Nat → Int32) (H : Heap) (locs : List Loc) (ls : Array Slot), k42 M_needed → WH D A s (WM am ca M_clauses M_given M_end M_taped M_size M_at M_to M_sort M_worth M_faultKind M_faultPlace M_isTold M_nodes M_plain M_minus M_block M_left M_right M_pivot M_live M_needed M_label M_tape M_of M_kept M_had M_told M_first M_second M_node M_nodeVariable M_nodeLow M_nodeHigh M_wait) H locs → lv_has ls 2 [(0, .ref (am 0))] → W p l e rm_M_find s m args below meth c H locs 0 0 (QV D A below args s (fun (u : Int32 × (Nat → Int32)) => k u.1 u.2) (fun (u : Int32 × (Nat → Int32)) => WM am ca M_clauses M_given u.1 M_taped M_size M_at M_to M_sort M_worth M_faultKind M_faultPlace M_isTold M_nodes M_plain M_minus M_block M_left M_right M_pivot M_live u.2 M_label M_tape M_of M_kept M_had M_told M_first M_second M_node M_nodeVariable M_nodeLow M_nodeHigh M_wait) 0 0) (F0 m 42 ls [])) →
      W p l e rm_M_find s m args below meth c H locs 0 0 (QV D A below args s (fun (u : Int32 × (Nat → Int32)) => k u.1 u.2) (fun (u : Int32 × (Nat → Int32)) => WM am ca M_clauses M_given u.1 M_taped M_size M_at M_to M_sort M_worth M_faultKind M_faultPlace M_isTold M_nodes M_plain M_minus M_block M_left M_right M_pivot M_live u.2 M_label M_tape M_of M_kept M_had M_told M_first M_second M_node M_nodeVariable M_nodeLow M_nodeHigh M_wait) 0 0) (F0 m 10 ls []) := by
  have hx := C0.1
  have hb := C0.2.1
  intro n
  induction n with
  | zero =>
    intro x1 M_needed H locs ls h
    exact False.elim h
  | succ n ih =>
    intro x1 M_needed H locs ls h hw hl h42
    unfold p_M_find_L10 at h
    refine lv_iload_n hx hb d_M_find_10 rfl (lv_at hl 1 rfl) ?_
    refine lv_sipush (v := 202) hx hb d_M_find_11 (by decide) ?_
    refine lv_icmp_ge (tgt := 42) hx hb d_M_find_14 (by decide) (fun c_2 => ?_) (fun c_2 => ?_)
    · have h := h.1 c_2
      exact h42 _ _ _ _ h hw (lv_sub hl [0] rfl)
    · have h := h.2 c_2
      refine lv_aload_n hx hb d_M_find_17 rfl (lv_at hl 0 rfl) ?_
      refine x_get C0 hw 0 rfl rfl i_M 7 (by decide) wm_732 rfl rfl d_M_find_18 ?_
      refine lv_iload_n hx hb d_M_find_21 rfl (lv_at hl 1 rfl) ?_
      refine lv_iload_n hx hb d_M_find_22 rfl (lv_at hl 1 rfl) ?_
      refine lv_aload_n hx hb d_M_find_23 rfl (lv_at hl 0 rfl) ?_
      refine x_get C0 hw 0 rfl rfl i_M 10 (by decide) wm_735 rfl rfl d_M_find_24 ?_
      refine lv_icmp_ne (tgt := 34) hx hb d_M_find_27 (by decide) (fun c_3 => ?_) (fun c_3 => ?_)
      · have h := h.1 c_3
        refine lv_iconst (v := 0) hx hb d_M_find_34 (by decide) ?_
        obtain ⟨hi_4, h⟩ := h
        refine x_zast C0 hw 8 rfl hi_4 (ws' := WM am ca M_clauses M_given M_end M_taped M_size M_at M_to M_sort M_worth M_faultKind M_faultPlace M_isTold M_nodes M_plain M_minus M_block M_left M_right M_pivot M_live (upd M_needed x1.toNatClampNeg (0 : Int32)) M_label M_tape M_of M_kept M_had M_told M_first M_second M_node M_nodeVariable M_nodeLow M_nodeHigh M_wait) rfl d_M_find_35 (fun H locs hw => ?_)
        refine lv_iinc (v := (x1 + 1)) (lv' := [(1, .int (x1 + 1)), (0, .ref (am 0))]) hx hb d_M_find_36 hl (k := 1) rfl rfl (by decide) rfl (fun ls hl => ?_)
        refine lv_goto (tgt := 10) hx hb d_M_find_39 (by decide) ?_
        exact ih _ _ h hw (lv_sub hl [1, 0] rfl) h42
      · have h := h.2 c_3
        refine lv_iconst (v := 1) hx hb d_M_find_30 (by decide) ?_
        refine lv_goto (tgt := 35) hx hb d_M_find_31 (by decide) ?_
        obtain ⟨hi_5, h⟩ := h
        refine x_zast C0 hw 8 rfl hi_5 (ws' := WM am ca M_clauses M_given M_end M_taped M_size M_at M_to M_sort M_worth M_faultKind M_faultPlace M_isTold M_nodes M_plain M_minus M_block M_left M_right M_pivot M_live (upd M_needed x1.toNatClampNeg (1 : Int32)) M_label M_tape M_of M_kept M_had M_told M_first M_second M_node M_nodeVariable M_nodeLow M_nodeHigh M_wait) rfl d_M_find_35 (fun H locs hw => ?_)
        refine lv_iinc (v := (x1 + 1)) (lv' := [(1, .int (x1 + 1)), (0, .ref (am 0))]) hx hb d_M_find_36 hl (k := 1) rfl rfl (by decide) rfl (fun ls hl => ?_)
        refine lv_goto (tgt := 10) hx hb d_M_find_39 (by decide) ?_
        exact ih _ _ h hw (lv_sub hl [1, 0] rfl) h42
set_option maxHeartbeats 4000000 in
set_option maxRecDepth 100000 in
theorem b_M_find_L47 {p : Program} {l : Launch} {e : Env} {s : State} {m : MethodId} {args : Array Value} {below : List Frame} {meth : Method} {c : Code} {D : va_G} {ca : Nat → ClassId} {tp : Nat} {A : Nat → Prop} {am : Nat → Nat} {M_clauses : Int32} {M_given : Int32} {M_end : Int32} {M_taped : Int32} {M_size : Int32} {M_at : Int32} {M_to : Int32} {M_sort : Int32} {M_worth : Int32} {M_faultKind : Int32} {M_faultPlace : Int32} {M_isTold : Int32} {M_nodes : Int32} {M_plain : Nat → Int32} {M_minus : Nat → Int32} {M_block : Nat → Int32} {M_left : Nat → Int32} {M_right : Nat → Int32} {M_pivot : Nat → Int32} {M_live : Nat → Int32} {M_label : Nat → Int32} {M_tape : Nat → Int32} {M_of : Nat → Int64} {M_kept : Nat → Int64} {M_had : Nat → Int32} {M_told : Nat → Int64} {M_first : Nat → Int64} {M_second : Nat → Int64} {M_node : Nat → Int64} {M_nodeVariable : Nat → Int32} {M_nodeLow : Nat → Int32} {M_nodeHigh : Nat → Int32} {M_wait : Nat → Int32}  {k : Int32 → (Nat → Int32) → Prop}  (C0 : CX p s m args meth c b_M_find 2 none R_M "find" D ca tp A) :
    ∀ (n : Nat) (x1 : Int32) (M_needed : Nat → Int32) {H : Heap} {locs : List Loc} {ls : Array Slot}, p_M_find_L47 M_end M_block M_left M_right k n x1 M_needed → WH D A s (WM am ca M_clauses M_given M_end M_taped M_size M_at M_to M_sort M_worth M_faultKind M_faultPlace M_isTold M_nodes M_plain M_minus M_block M_left M_right M_pivot M_live M_needed M_label M_tape M_of M_kept M_had M_told M_first M_second M_node M_nodeVariable M_nodeLow M_nodeHigh M_wait) H locs → lv_has ls 2 [(0, .ref (am 0)), (1, .int x1)] →
      W p l e rm_M_find s m args below meth c H locs 0 0 (QV D A below args s (fun (u : Int32 × (Nat → Int32)) => k u.1 u.2) (fun (u : Int32 × (Nat → Int32)) => WM am ca M_clauses M_given u.1 M_taped M_size M_at M_to M_sort M_worth M_faultKind M_faultPlace M_isTold M_nodes M_plain M_minus M_block M_left M_right M_pivot M_live u.2 M_label M_tape M_of M_kept M_had M_told M_first M_second M_node M_nodeVariable M_nodeLow M_nodeHigh M_wait) 0 0) (F0 m 47 ls []) := by
  have hx := C0.1
  have hb := C0.2.1
  intro n
  induction n with
  | zero =>
    intro x1 M_needed H locs ls h
    exact False.elim h
  | succ n ih =>
    intro x1 M_needed H locs ls h hw hl
    unfold p_M_find_L47 at h
    refine lv_iload_n hx hb d_M_find_47 rfl (lv_at hl 1 rfl) ?_
    refine lv_if_le (tgt := 102) hx hb d_M_find_48 (by decide) (fun c_7 => ?_) (fun c_7 => ?_)
    · have h := h.1 c_7
      exact x_vret C0 hw (M_end, M_needed) h rfl d_M_find_102
    · have h := h.2 c_7
      refine lv_aload_n hx hb d_M_find_51 rfl (lv_at hl 0 rfl) ?_
      refine x_get C0 hw 0 rfl rfl i_M 7 (by decide) wm_732 rfl rfl d_M_find_52 ?_
      refine lv_iload_n hx hb d_M_find_55 rfl (lv_at hl 1 rfl) ?_
      obtain ⟨hi_8, h⟩ := h
      refine x_zald C0 hw 8 rfl hi_8 d_M_find_56 ?_
      refine lv_if_eq (tgt := 96) hx hb d_M_find_57 (by decide) (fun c_9 => ?_) (fun c_9 => ?_)
      · have h := h.1 c_9
        refine lv_iinc (v := (x1 + (-1))) (lv' := [(1, .int (x1 + (-1))), (0, .ref (am 0))]) hx hb d_M_find_96 hl (k := 1) rfl rfl (by decide) rfl (fun ls hl => ?_)
        refine lv_goto (tgt := 47) hx hb d_M_find_99 (by decide) ?_
        exact ih _ _ h hw (lv_sub hl [1, 0] rfl)
      · have h := h.2 c_9
        refine lv_aload_n hx hb d_M_find_60 rfl (lv_at hl 0 rfl) ?_
        refine x_get C0 hw 0 rfl rfl i_M 2 (by decide) wm_727 rfl rfl d_M_find_61 ?_
        refine lv_iload_n hx hb d_M_find_64 rfl (lv_at hl 1 rfl) ?_
        refine x_iald C0 hw 3 rfl hi_8 d_M_find_65 ?_
        refine lv_if_le (tgt := 72) hx hb d_M_find_66 (by decide) (fun c_10 => ?_) (fun c_10 => ?_)
        · have h := h.1 c_10
          refine lv_aload_n hx hb d_M_find_72 rfl (lv_at hl 0 rfl) ?_
          refine x_get C0 hw 0 rfl rfl i_M 7 (by decide) wm_732 rfl rfl d_M_find_73 ?_
          refine lv_aload_n hx hb d_M_find_76 rfl (lv_at hl 0 rfl) ?_
          refine x_get C0 hw 0 rfl rfl i_M 3 (by decide) wm_728 rfl rfl d_M_find_77 ?_
          refine lv_iload_n hx hb d_M_find_80 rfl (lv_at hl 1 rfl) ?_
          refine x_iald C0 hw 4 rfl hi_8 d_M_find_81 ?_
          refine lv_iconst (v := 1) hx hb d_M_find_82 (by decide) ?_
          obtain ⟨hi_11, h⟩ := h
          refine x_zast C0 hw 8 rfl hi_11 (ws' := WM am ca M_clauses M_given M_end M_taped M_size M_at M_to M_sort M_worth M_faultKind M_faultPlace M_isTold M_nodes M_plain M_minus M_block M_left M_right M_pivot M_live (upd M_needed (M_left x1.toNatClampNeg).toNatClampNeg (1 : Int32)) M_label M_tape M_of M_kept M_had M_told M_first M_second M_node M_nodeVariable M_nodeLow M_nodeHigh M_wait) rfl d_M_find_83 (fun H locs hw => ?_)
          refine lv_aload_n hx hb d_M_find_84 rfl (lv_at hl 0 rfl) ?_
          refine x_get C0 hw 0 rfl rfl i_M 7 (by decide) wm_732 rfl rfl d_M_find_85 ?_
          refine lv_aload_n hx hb d_M_find_88 rfl (lv_at hl 0 rfl) ?_
          refine x_get C0 hw 0 rfl rfl i_M 4 (by decide) wm_729 rfl rfl d_M_find_89 ?_
          refine lv_iload_n hx hb d_M_find_92 rfl (lv_at hl 1 rfl) ?_
          refine x_iald C0 hw 5 rfl hi_8 d_M_find_93 ?_
          refine lv_iconst (v := 1) hx hb d_M_find_94 (by decide) ?_
          obtain ⟨hi_12, h⟩ := h
          refine x_zast C0 hw 8 rfl hi_12 (ws' := WM am ca M_clauses M_given M_end M_taped M_size M_at M_to M_sort M_worth M_faultKind M_faultPlace M_isTold M_nodes M_plain M_minus M_block M_left M_right M_pivot M_live (upd (upd M_needed (M_left x1.toNatClampNeg).toNatClampNeg (1 : Int32)) (M_right x1.toNatClampNeg).toNatClampNeg (1 : Int32)) M_label M_tape M_of M_kept M_had M_told M_first M_second M_node M_nodeVariable M_nodeLow M_nodeHigh M_wait) rfl d_M_find_95 (fun H locs hw => ?_)
          refine lv_iinc (v := (x1 + (-1))) (lv' := [(1, .int (x1 + (-1))), (0, .ref (am 0))]) hx hb d_M_find_96 hl (k := 1) rfl rfl (by decide) rfl (fun ls hl => ?_)
          refine lv_goto (tgt := 47) hx hb d_M_find_99 (by decide) ?_
          exact ih _ _ h hw (lv_sub hl [1, 0] rfl)
        · have h := h.2 c_10
          refine lv_goto (tgt := 96) hx hb d_M_find_69 (by decide) ?_
          refine lv_iinc (v := (x1 + (-1))) (lv' := [(1, .int (x1 + (-1))), (0, .ref (am 0))]) hx hb d_M_find_96 hl (k := 1) rfl rfl (by decide) rfl (fun ls hl => ?_)
          refine lv_goto (tgt := 47) hx hb d_M_find_99 (by decide) ?_
          exact ih _ _ h hw (lv_sub hl [1, 0] rfl)
set_option maxHeartbeats 4000000 in
set_option maxRecDepth 100000 in
theorem c_M_find {l : Launch} {D : va_G} {ca : Nat → ClassId} {tp : Nat} {am : Nat → Nat} {M_clauses : Int32} {M_given : Int32} {M_end : Int32} {M_taped : Int32} {M_size : Int32} {M_at : Int32} {M_to : Int32} {M_sort : Int32} {M_worth : Int32} {M_faultKind : Int32} {M_faultPlace : Int32} {M_isTold : Int32} {M_nodes : Int32} {M_plain : Nat → Int32} {M_minus : Nat → Int32} {M_block : Nat → Int32} {M_left : Nat → Int32} {M_right : Nat → Int32} {M_pivot : Nat → Int32} {M_live : Nat → Int32} {M_needed : Nat → Int32} {M_label : Nat → Int32} {M_tape : Nat → Int32} {M_of : Nat → Int64} {M_kept : Nat → Int64} {M_had : Nat → Int32} {M_told : Nat → Int64} {M_first : Nat → Int64} {M_second : Nat → Int64} {M_node : Nat → Int64} {M_nodeVariable : Nat → Int32} {M_nodeLow : Nat → Int32} {M_nodeHigh : Nat → Int32} {M_wait : Nat → Int32}  {k : Int32 → (Nat → Int32) → Prop} (h : p_M_find M_clauses M_plain M_minus M_block M_left M_right M_needed k) :
    MTv l y_M_find b_M_find 2 none rm_M_find D ca tp [.ref (am 0)] (WM am ca M_clauses M_given M_end M_taped M_size M_at M_to M_sort M_worth M_faultKind M_faultPlace M_isTold M_nodes M_plain M_minus M_block M_left M_right M_pivot M_live M_needed M_label M_tape M_of M_kept M_had M_told M_first M_second M_node M_nodeVariable M_nodeLow M_nodeHigh M_wait)
      (fun (u : Int32 × (Nat → Int32)) => k u.1 u.2)
      (fun (u : Int32 × (Nat → Int32)) => WM am ca M_clauses M_given u.1 M_taped M_size M_at M_to M_sort M_worth M_faultKind M_faultPlace M_isTold M_nodes M_plain M_minus M_block M_left M_right M_pivot M_live u.2 M_label M_tape M_of M_kept M_had M_told M_first M_second M_node M_nodeVariable M_nodeLow M_nodeHigh M_wait) 0 0 := by
  refine x_entryv (own := R_M) (nm := "find") (by decide) rfl rfl (Nat.le_of_ble_eq_true rfl) (fun p e s m below meth c A ls C0 hw hl => ?_)
  have hx := C0.1
  have hb := C0.2.1
  have hl : lv_has ls 2 [(0, .ref (am 0))] := hl
  unfold p_M_find at h
  refine lv_aload_n hx hb d_M_find_0 rfl (lv_at hl 0 rfl) ?_
  refine lv_aload_n hx hb d_M_find_1 rfl (lv_at hl 0 rfl) ?_
  refine x_callVi C0 hw hl (c_M_empty h) g_M_empty wm_875 ⟨wm_41, wm_877⟩ 0 rfl rfl rfl (As := []) (rest := [.ref (am 0)]) rfl rfl (Nat.le_of_ble_eq_true rfl) ⟨rfl, rfl⟩ ⟨Nat.le_of_ble_eq_true rfl, Nat.le_of_ble_eq_true rfl⟩ ⟨Nat.le_of_ble_eq_true rfl, Nat.le_of_ble_eq_true rfl⟩ d_M_find_2 (fun r_1 u H locs h hw => ?_)
  refine x_put C0 hw 0 rfl rfl i_M tk_M n_M 10 (by decide) wm_735 rfl rfl rfl rfl (Nat.le_of_ble_eq_true rfl) (ws' := WM am ca M_clauses M_given r_1 M_taped M_size M_at M_to M_sort M_worth M_faultKind M_faultPlace M_isTold M_nodes M_plain M_minus M_block M_left M_right M_pivot M_live M_needed M_label M_tape M_of M_kept M_had M_told M_first M_second M_node M_nodeVariable M_nodeLow M_nodeHigh M_wait) rfl d_M_find_5 (fun H locs hw => ?_)
  refine lv_iconst (v := 0) hx hb d_M_find_8 (by decide) ?_
  refine lv_istore_n (lv' := [(1, .int (0 : Int32)), (0, .ref (am 0))]) hx hb d_M_find_9 rfl hl (by decide) rfl (fun ls hl => ?_)
  obtain ⟨j_14, h⟩ := h
  refine b_M_find_L10 C0 _ _ _ h hw (lv_sub hl [1, 0] rfl) (fun M_needed_6 H locs ls h hw hl => ?_)
  refine lv_aload_n hx hb d_M_find_42 rfl (lv_at hl 0 rfl) ?_
  refine x_get C0 hw 0 rfl rfl i_M 8 (by decide) wm_733 rfl rfl d_M_find_43 ?_
  refine lv_istore_n (lv' := [(1, .int M_clauses), (0, .ref (am 0))]) hx hb d_M_find_46 rfl hl (by decide) rfl (fun ls hl => ?_)
  obtain ⟨j_13, h⟩ := h
  refine b_M_find_L47 C0 _ _ _ h hw (lv_sub hl [1, 0] rfl)
theorem g_M_read : GY y_M_read b_M_read 3 (some .int) 0 := ⟨wm_839, wm_62, by decide +kernel, by decide +kernel, by decide +kernel⟩
def p_M_read_L42 (M_size : Int32) (M_tape : Nat → Int32) (k99 : Int32 → Int32 → Int32 → Int32 → Int32 → Int32 → Int32 → Int32 → (Nat → Int32) → (Nat → Int32) → (Nat → Int32) → (Nat → Int32) → (Nat → Int32) → (Nat → Int32) → (Nat → Int32) → Prop) : Nat → Int32 → Int32 → Int32 → Int32 → Int32 → Int32 → Int32 → Int32 → (Nat → Int32) → (Nat → Int32) → (Nat → Int32) → (Nat → Int32) → (Nat → Int32) → (Nat → Int32) → (Nat → Int32) → Prop
  | 0, _, _, _, _, _, _, _, _, _, _, _, _, _, _, _ => False
  | n + 1, M_clauses, M_given, M_at, M_to, M_sort, M_worth, M_faultKind, M_faultPlace, M_plain, M_minus, M_block, M_left, M_right, M_pivot, M_live =>
    ((¬ M_faultKind = 0 → (k99 M_clauses M_given M_at M_to M_sort M_worth M_faultKind M_faultPlace M_plain M_minus M_block M_left M_right M_pivot M_live)) ∧ (M_faultKind = 0 → ((M_sort = (2 : Int32) → (k99 M_clauses M_given M_at M_to M_sort M_worth M_faultKind M_faultPlace M_plain M_minus M_block M_left M_right M_pivot M_live)) ∧ (¬ M_sort = (2 : Int32) → ((¬ M_sort = (99 : Int32) → ((¬ M_sort = (114 : Int32) → (p_M_need M_at M_faultKind M_faultPlace (0 : Int32) (1 : Int32) (fun (r_12 : Int32) (M_faultKind_10 : Int32) (M_faultPlace_11 : Int32) => (p_M_read_L42 M_size M_tape k99 n M_clauses M_given M_at M_to M_sort M_worth M_faultKind_10 M_faultPlace_11 M_plain M_minus M_block M_left M_right M_pivot M_live)))) ∧ (M_sort = (114 : Int32) → (p_M_readResolvent M_clauses M_given M_size M_at M_to M_sort M_worth M_faultKind M_faultPlace M_plain M_minus M_block M_left M_right M_pivot M_live M_tape (fun (M_clauses_13 : Int32) (M_given_14 : Int32) (M_at_15 : Int32) (M_to_16 : Int32) (M_sort_17 : Int32) (M_worth_18 : Int32) (M_faultKind_19 : Int32) (M_faultPlace_20 : Int32) (M_plain_21 : Nat → Int32) (M_minus_22 : Nat → Int32) (M_block_23 : Nat → Int32) (M_left_24 : Nat → Int32) (M_right_25 : Nat → Int32) (M_pivot_26 : Nat → Int32) (M_live_27 : Nat → Int32) => (p_M_read_L42 M_size M_tape k99 n M_clauses_13 M_given_14 M_at_15 M_to_16 M_sort_17 M_worth_18 M_faultKind_19 M_faultPlace_20 M_plain_21 M_minus_22 M_block_23 M_left_24 M_right_25 M_pivot_26 M_live_27)))))) ∧ (M_sort = (99 : Int32) → (p_M_readGiven M_clauses M_given M_size M_at M_to M_sort M_worth M_faultKind M_faultPlace M_plain M_minus M_block M_left M_right M_pivot M_live M_tape (fun (M_clauses_29 : Int32) (M_given_30 : Int32) (M_at_31 : Int32) (M_to_32 : Int32) (M_sort_33 : Int32) (M_worth_34 : Int32) (M_faultKind_35 : Int32) (M_faultPlace_36 : Int32) (M_plain_37 : Nat → Int32) (M_minus_38 : Nat → Int32) (M_block_39 : Nat → Int32) (M_left_40 : Nat → Int32) (M_right_41 : Nat → Int32) (M_pivot_42 : Nat → Int32) (M_live_43 : Nat → Int32) => (p_M_read_L42 M_size M_tape k99 n M_clauses_29 M_given_30 M_at_31 M_to_32 M_sort_33 M_worth_34 M_faultKind_35 M_faultPlace_36 M_plain_37 M_minus_38 M_block_39 M_left_40 M_right_41 M_pivot_42 M_live_43)))))))))
def p_M_read_J99 (k : Int32 → Int32 → Int32 → Int32 → Int32 → Int32 → Int32 → Int32 → Int32 → Int32 → Int32 → Int32 → (Nat → Int32) → (Nat → Int32) → (Nat → Int32) → (Nat → Int32) → (Nat → Int32) → (Nat → Int32) → (Nat → Int32) → (Nat → Int32) → Prop) (x1 : Int32) (x2 : Int32) (M_clauses : Int32) (M_given : Int32) (M_end : Int32) (M_taped : Int32) (M_size : Int32) (M_at : Int32) (M_to : Int32) (M_sort : Int32) (M_worth : Int32) (M_faultKind : Int32) (M_faultPlace : Int32) (M_plain : Nat → Int32) (M_minus : Nat → Int32) (M_block : Nat → Int32) (M_left : Nat → Int32) (M_right : Nat → Int32) (M_pivot : Nat → Int32) (M_live : Nat → Int32) (M_needed : Nat → Int32) : Prop :=
  ((M_faultKind ≤ 0 → (p_M_find M_clauses M_plain M_minus M_block M_left M_right M_needed (fun (M_end_61 : Int32) (M_needed_62 : Nat → Int32) => (k (M_clauses - x1) M_clauses M_given M_end_61 M_taped M_size M_at M_to M_sort M_worth M_faultKind M_faultPlace M_plain M_minus M_block M_left M_right M_pivot M_live M_needed_62)))) ∧ (¬ M_faultKind ≤ 0 → (k (-1 : Int32) x1 x2 M_end M_taped M_size M_at M_to M_sort M_worth M_faultKind M_faultPlace M_plain M_minus M_block M_left M_right M_pivot M_live M_needed)))
def p_M_read (M_clauses : Int32) (M_given : Int32) (M_end : Int32) (M_taped : Int32) (M_at : Int32) (M_sort : Int32) (M_worth : Int32) (M_plain : Nat → Int32) (M_minus : Nat → Int32) (M_block : Nat → Int32) (M_left : Nat → Int32) (M_right : Nat → Int32) (M_pivot : Nat → Int32) (M_live : Nat → Int32) (M_needed : Nat → Int32) (M_tape : Nat → Int32) (k : Int32 → Int32 → Int32 → Int32 → Int32 → Int32 → Int32 → Int32 → Int32 → Int32 → Int32 → Int32 → (Nat → Int32) → (Nat → Int32) → (Nat → Int32) → (Nat → Int32) → (Nat → Int32) → (Nat → Int32) → (Nat → Int32) → (Nat → Int32) → Prop) : Prop :=
  (p_M_cut M_taped M_at (0 : Int32) M_sort M_worth M_tape (fun (M_at_1 : Int32) (M_to_2 : Int32) (M_sort_3 : Int32) (M_worth_4 : Int32) => (∃ j_64, p_M_read_L42 M_taped M_tape (fun (M_clauses_45 : Int32) (M_given_46 : Int32) (M_at_47 : Int32) (M_to_48 : Int32) (M_sort_49 : Int32) (M_worth_50 : Int32) (M_faultKind_51 : Int32) (M_faultPlace_52 : Int32) (M_plain_53 : Nat → Int32) (M_minus_54 : Nat → Int32) (M_block_55 : Nat → Int32) (M_left_56 : Nat → Int32) (M_right_57 : Nat → Int32) (M_pivot_58 : Nat → Int32) (M_live_59 : Nat → Int32) => (p_M_read_J99 k M_clauses M_given M_clauses_45 M_given_46 M_end (0 : Int32) M_taped M_at_47 M_to_48 M_sort_49 M_worth_50 M_faultKind_51 M_faultPlace_52 M_plain_53 M_minus_54 M_block_55 M_left_56 M_right_57 M_pivot_58 M_live_59 M_needed)) j_64 M_clauses M_given M_at_1 M_to_2 M_sort_3 M_worth_4 (0 : Int32) (-1 : Int32) M_plain M_minus M_block M_left M_right M_pivot M_live)))
abbrev rm_M_read : Room := { frames := 4, cells := 0, slots := 0, locals := 90 }
set_option maxHeartbeats 4000000 in
set_option maxRecDepth 100000 in
theorem b_M_read_L42 {p : Program} {l : Launch} {e : Env} {s : State} {m : MethodId} {args : Array Value} {below : List Frame} {meth : Method} {c : Code} {D : va_G} {ca : Nat → ClassId} {tp : Nat} {A : Nat → Prop} {am : Nat → Nat} {M_end : Int32} {M_taped : Int32} {M_size : Int32} {M_isTold : Int32} {M_nodes : Int32} {M_needed : Nat → Int32} {M_label : Nat → Int32} {M_tape : Nat → Int32} {M_of : Nat → Int64} {M_kept : Nat → Int64} {M_had : Nat → Int32} {M_told : Nat → Int64} {M_first : Nat → Int64} {M_second : Nat → Int64} {M_node : Nat → Int64} {M_nodeVariable : Nat → Int32} {M_nodeLow : Nat → Int32} {M_nodeHigh : Nat → Int32} {M_wait : Nat → Int32} {x1 : Int32} {x2 : Int32} {k : Int32 → Int32 → Int32 → Int32 → Int32 → Int32 → Int32 → Int32 → Int32 → Int32 → Int32 → Int32 → (Nat → Int32) → (Nat → Int32) → (Nat → Int32) → (Nat → Int32) → (Nat → Int32) → (Nat → Int32) → (Nat → Int32) → (Nat → Int32) → Prop} {k99 : Int32 → Int32 → Int32 → Int32 → Int32 → Int32 → Int32 → Int32 → (Nat → Int32) → (Nat → Int32) → (Nat → Int32) → (Nat → Int32) → (Nat → Int32) → (Nat → Int32) → (Nat → Int32) → Prop} (C0 : CX p s m args meth c b_M_read 3 (some .int) R_M "read" D ca tp A) :
    ∀ (n : Nat) (M_clauses : Int32) (M_given : Int32) (M_at : Int32) (M_to : Int32) (M_sort : Int32) (M_worth : Int32) (M_faultKind : Int32) (M_faultPlace : Int32) (M_plain : Nat → Int32) (M_minus : Nat → Int32) (M_block : Nat → Int32) (M_left : Nat → Int32) (M_right : Nat → Int32) (M_pivot : Nat → Int32) (M_live : Nat → Int32) {H : Heap} {locs : List Loc} {ls : Array Slot}, p_M_read_L42 M_size M_tape k99 n M_clauses M_given M_at M_to M_sort M_worth M_faultKind M_faultPlace M_plain M_minus M_block M_left M_right M_pivot M_live → WH D A s (WM am ca M_clauses M_given M_end M_taped M_size M_at M_to M_sort M_worth M_faultKind M_faultPlace M_isTold M_nodes M_plain M_minus M_block M_left M_right M_pivot M_live M_needed M_label M_tape M_of M_kept M_had M_told M_first M_second M_node M_nodeVariable M_nodeLow M_nodeHigh M_wait) H locs → lv_has ls 3 [(0, .ref (am 0)), (1, .int x1), (2, .int x2)] →
      (∀ (M_clauses : Int32) (M_given : Int32) (M_at : Int32) (M_to : Int32) (M_sort : Int32) (M_worth : Int32) (M_faultKind : Int32) (M_faultPlace : Int32) (M_plain : Nat → Int32) (M_minus : Nat → Int32) (M_block : Nat → Int32) (M_left : Nat → Int32) (M_right : Nat → Int32) (M_pivot : Nat → Int32) (M_live : Nat → Int32) (H : Heap) (locs : List Loc) (ls : Array Slot), k99 M_clauses M_given M_at M_to M_sort M_worth M_faultKind M_faultPlace M_plain M_minus M_block M_left M_right M_pivot M_live → WH D A s (WM am ca M_clauses M_given M_end M_taped M_size M_at M_to M_sort M_worth M_faultKind M_faultPlace M_isTold M_nodes M_plain M_minus M_block M_left M_right M_pivot M_live M_needed M_label M_tape M_of M_kept M_had M_told M_first M_second M_node M_nodeVariable M_nodeLow M_nodeHigh M_wait) H locs → lv_has ls 3 [(0, .ref (am 0)), (1, .int x1), (2, .int x2)] → W p l e rm_M_read s m args below meth c H locs 0 0 (QI D A below args s (fun r (u : Int32 × Int32 × Int32 × Int32 × Int32 × Int32 × Int32 × Int32 × Int32 × Int32 × Int32 × (Nat → Int32) × (Nat → Int32) × (Nat → Int32) × (Nat → Int32) × (Nat → Int32) × (Nat → Int32) × (Nat → Int32) × (Nat → Int32)) => k r u.1 u.2.1 u.2.2.1 u.2.2.2.1 u.2.2.2.2.1 u.2.2.2.2.2.1 u.2.2.2.2.2.2.1 u.2.2.2.2.2.2.2.1 u.2.2.2.2.2.2.2.2.1 u.2.2.2.2.2.2.2.2.2.1 u.2.2.2.2.2.2.2.2.2.2.1 u.2.2.2.2.2.2.2.2.2.2.2.1 u.2.2.2.2.2.2.2.2.2.2.2.2.1 u.2.2.2.2.2.2.2.2.2.2.2.2.2.1 u.2.2.2.2.2.2.2.2.2.2.2.2.2.2.1 u.2.2.2.2.2.2.2.2.2.2.2.2.2.2.2.1 u.2.2.2.2.2.2.2.2.2.2.2.2.2.2.2.2.1 u.2.2.2.2.2.2.2.2.2.2.2.2.2.2.2.2.2.1 u.2.2.2.2.2.2.2.2.2.2.2.2.2.2.2.2.2.2) (fun (u : Int32 × Int32 × Int32 × Int32 × Int32 × Int32 × Int32 × Int32 × Int32 × Int32 × Int32 × (Nat → Int32) × (Nat → Int32) × (Nat → Int32) × (Nat → Int32) × (Nat → Int32) × (Nat → Int32) × (Nat → Int32) × (Nat → Int32)) => WM am ca u.1 u.2.1 u.2.2.1 u.2.2.2.1 u.2.2.2.2.1 u.2.2.2.2.2.1 u.2.2.2.2.2.2.1 u.2.2.2.2.2.2.2.1 u.2.2.2.2.2.2.2.2.1 u.2.2.2.2.2.2.2.2.2.1 u.2.2.2.2.2.2.2.2.2.2.1 M_isTold M_nodes u.2.2.2.2.2.2.2.2.2.2.2.1 u.2.2.2.2.2.2.2.2.2.2.2.2.1 u.2.2.2.2.2.2.2.2.2.2.2.2.2.1 u.2.2.2.2.2.2.2.2.2.2.2.2.2.2.1 u.2.2.2.2.2.2.2.2.2.2.2.2.2.2.2.1 u.2.2.2.2.2.2.2.2.2.2.2.2.2.2.2.2.1 u.2.2.2.2.2.2.2.2.2.2.2.2.2.2.2.2.2.1 u.2.2.2.2.2.2.2.2.2.2.2.2.2.2.2.2.2.2 M_label M_tape M_of M_kept M_had M_told M_first M_second M_node M_nodeVariable M_nodeLow M_nodeHigh M_wait) 0 0) (F0 m 99 ls [])) →
      W p l e rm_M_read s m args below meth c H locs 0 0 (QI D A below args s (fun r (u : Int32 × Int32 × Int32 × Int32 × Int32 × Int32 × Int32 × Int32 × Int32 × Int32 × Int32 × (Nat → Int32) × (Nat → Int32) × (Nat → Int32) × (Nat → Int32) × (Nat → Int32) × (Nat → Int32) × (Nat → Int32) × (Nat → Int32)) => k r u.1 u.2.1 u.2.2.1 u.2.2.2.1 u.2.2.2.2.1 u.2.2.2.2.2.1 u.2.2.2.2.2.2.1 u.2.2.2.2.2.2.2.1 u.2.2.2.2.2.2.2.2.1 u.2.2.2.2.2.2.2.2.2.1 u.2.2.2.2.2.2.2.2.2.2.1 u.2.2.2.2.2.2.2.2.2.2.2.1 u.2.2.2.2.2.2.2.2.2.2.2.2.1 u.2.2.2.2.2.2.2.2.2.2.2.2.2.1 u.2.2.2.2.2.2.2.2.2.2.2.2.2.2.1 u.2.2.2.2.2.2.2.2.2.2.2.2.2.2.2.1 u.2.2.2.2.2.2.2.2.2.2.2.2.2.2.2.2.1 u.2.2.2.2.2.2.2.2.2.2.2.2.2.2.2.2.2.1 u.2.2.2.2.2.2.2.2.2.2.2.2.2.2.2.2.2.2) (fun (u : Int32 × Int32 × Int32 × Int32 × Int32 × Int32 × Int32 × Int32 × Int32 × Int32 × Int32 × (Nat → Int32) × (Nat → Int32) × (Nat → Int32) × (Nat → Int32) × (Nat → Int32) × (Nat → Int32) × (Nat → Int32) × (Nat → Int32)) => WM am ca u.1 u.2.1 u.2.2.1 u.2.2.2.1 u.2.2.2.2.1 u.2.2.2.2.2.1 u.2.2.2.2.2.2.1 u.2.2.2.2.2.2.2.1 u.2.2.2.2.2.2.2.2.1 u.2.2.2.2.2.2.2.2.2.1 u.2.2.2.2.2.2.2.2.2.2.1 M_isTold M_nodes u.2.2.2.2.2.2.2.2.2.2.2.1 u.2.2.2.2.2.2.2.2.2.2.2.2.1 u.2.2.2.2.2.2.2.2.2.2.2.2.2.1 u.2.2.2.2.2.2.2.2.2.2.2.2.2.2.1 u.2.2.2.2.2.2.2.2.2.2.2.2.2.2.2.1 u.2.2.2.2.2.2.2.2.2.2.2.2.2.2.2.2.1 u.2.2.2.2.2.2.2.2.2.2.2.2.2.2.2.2.2.1 u.2.2.2.2.2.2.2.2.2.2.2.2.2.2.2.2.2.2 M_label M_tape M_of M_kept M_had M_told M_first M_second M_node M_nodeVariable M_nodeLow M_nodeHigh M_wait) 0 0) (F0 m 42 ls []) := by
  have hx := C0.1
  have hb := C0.2.1
  intro n
  induction n with
  | zero =>
    intro M_clauses M_given M_at M_to M_sort M_worth M_faultKind M_faultPlace M_plain M_minus M_block M_left M_right M_pivot M_live H locs ls h
    exact False.elim h
  | succ n ih =>
    intro M_clauses M_given M_at M_to M_sort M_worth M_faultKind M_faultPlace M_plain M_minus M_block M_left M_right M_pivot M_live H locs ls h hw hl h99
    unfold p_M_read_L42 at h
    refine lv_aload_n hx hb d_M_read_42 rfl (lv_at hl 0 rfl) ?_
    refine x_get C0 hw 0 rfl rfl i_M 19 (by decide) wm_744 rfl rfl d_M_read_43 ?_
    refine lv_if_ne (tgt := 99) hx hb d_M_read_46 (by decide) (fun c_6 => ?_) (fun c_6 => ?_)
    · have h := h.1 c_6
      exact h99 _ _ _ _ _ _ _ _ _ _ _ _ _ _ _ _ _ _ h hw (lv_sub hl [0, 1, 2] rfl)
    · have h := h.2 c_6
      refine lv_aload_n hx hb d_M_read_49 rfl (lv_at hl 0 rfl) ?_
      refine x_get C0 hw 0 rfl rfl i_M 17 (by decide) wm_742 rfl rfl d_M_read_50 ?_
      refine lv_iconst (v := 2) hx hb d_M_read_53 (by decide) ?_
      refine lv_icmp_eq (tgt := 99) hx hb d_M_read_54 (by decide) (fun c_7 => ?_) (fun c_7 => ?_)
      · have h := h.1 c_7
        exact h99 _ _ _ _ _ _ _ _ _ _ _ _ _ _ _ _ _ _ h hw (lv_sub hl [0, 1, 2] rfl)
      · have h := h.2 c_7
        refine lv_aload_n hx hb d_M_read_57 rfl (lv_at hl 0 rfl) ?_
        refine x_get C0 hw 0 rfl rfl i_M 17 (by decide) wm_742 rfl rfl d_M_read_58 ?_
        refine lv_bipush (v := 99) hx hb d_M_read_61 (by decide) ?_
        refine lv_icmp_ne (tgt := 73) hx hb d_M_read_63 (by decide) (fun c_8 => ?_) (fun c_8 => ?_)
        · have h := h.1 c_8
          refine lv_aload_n hx hb d_M_read_73 rfl (lv_at hl 0 rfl) ?_
          refine x_get C0 hw 0 rfl rfl i_M 17 (by decide) wm_742 rfl rfl d_M_read_74 ?_
          refine lv_bipush (v := 114) hx hb d_M_read_77 (by decide) ?_
          refine lv_icmp_ne (tgt := 89) hx hb d_M_read_79 (by decide) (fun c_9 => ?_) (fun c_9 => ?_)
          · have h := h.1 c_9
            refine lv_aload_n hx hb d_M_read_89 rfl (lv_at hl 0 rfl) ?_
            refine lv_iconst (v := 0) hx hb d_M_read_90 (by decide) ?_
            refine lv_iconst (v := 1) hx hb d_M_read_91 (by decide) ?_
            refine x_callVi C0 hw hl (c_M_need h) g_M_need wm_851 ⟨wm_35, wm_853⟩ 0 rfl rfl rfl (As := [.int (0 : Int32), .int (1 : Int32)]) (rest := []) rfl rfl (Nat.le_of_ble_eq_true rfl) ⟨rfl, rfl⟩ ⟨Nat.le_of_ble_eq_true rfl, Nat.le_of_ble_eq_true rfl⟩ ⟨Nat.le_of_ble_eq_true rfl, Nat.le_of_ble_eq_true rfl⟩ d_M_read_92 (fun r_12 u H locs h hw => ?_)
            obtain ⟨M_faultKind_10, M_faultPlace_11⟩ := u
            refine lv_pop hx hb d_M_read_95 rfl ?_
            refine lv_goto (tgt := 42) hx hb d_M_read_96 (by decide) ?_
            exact ih _ _ _ _ _ _ _ _ _ _ _ _ _ _ _ h hw (lv_sub hl [0, 1, 2] rfl) h99
          · have h := h.2 c_9
            refine lv_aload_n hx hb d_M_read_82 rfl (lv_at hl 0 rfl) ?_
            refine x_callVv C0 hw hl (c_M_readResolvent h) g_M_readResolvent wm_863 ⟨wm_38, wm_865⟩ 0 rfl rfl rfl (As := []) (rest := []) rfl rfl (Nat.le_of_ble_eq_true rfl) ⟨rfl, rfl⟩ ⟨Nat.le_of_ble_eq_true rfl, Nat.le_of_ble_eq_true rfl⟩ ⟨Nat.le_of_ble_eq_true rfl, Nat.le_of_ble_eq_true rfl⟩ d_M_read_83 (fun u H locs h hw => ?_)
            obtain ⟨M_clauses_13, M_given_14, M_at_15, M_to_16, M_sort_17, M_worth_18, M_faultKind_19, M_faultPlace_20, M_plain_21, M_minus_22, M_block_23, M_left_24, M_right_25, M_pivot_26, M_live_27⟩ := u
            refine lv_goto (tgt := 42) hx hb d_M_read_86 (by decide) ?_
            exact ih _ _ _ _ _ _ _ _ _ _ _ _ _ _ _ h hw (lv_sub hl [0, 1, 2] rfl) h99
        · have h := h.2 c_8
          refine lv_aload_n hx hb d_M_read_66 rfl (lv_at hl 0 rfl) ?_
          refine x_callVv C0 hw hl (c_M_readGiven h) g_M_readGiven wm_847 ⟨wm_34, wm_849⟩ 0 rfl rfl rfl (As := []) (rest := []) rfl rfl (Nat.le_of_ble_eq_true rfl) ⟨rfl, rfl⟩ ⟨Nat.le_of_ble_eq_true rfl, Nat.le_of_ble_eq_true rfl⟩ ⟨Nat.le_of_ble_eq_true rfl, Nat.le_of_ble_eq_true rfl⟩ d_M_read_67 (fun u H locs h hw => ?_)
          obtain ⟨M_clauses_29, M_given_30, M_at_31, M_to_32, M_sort_33, M_worth_34, M_faultKind_35, M_faultPlace_36, M_plain_37, M_minus_38, M_block_39, M_left_40, M_right_41, M_pivot_42, M_live_43⟩ := u
          refine lv_goto (tgt := 42) hx hb d_M_read_70 (by decide) ?_
          exact ih _ _ _ _ _ _ _ _ _ _ _ _ _ _ _ h hw (lv_sub hl [0, 1, 2] rfl) h99
set_option maxHeartbeats 4000000 in
set_option maxRecDepth 100000 in
theorem b_M_read_J99 {p : Program} {l : Launch} {e : Env} {s : State} {m : MethodId} {args : Array Value} {below : List Frame} {meth : Method} {c : Code} {D : va_G} {ca : Nat → ClassId} {tp : Nat} {A : Nat → Prop} {am : Nat → Nat} {M_isTold : Int32} {M_nodes : Int32} {M_label : Nat → Int32} {M_tape : Nat → Int32} {M_of : Nat → Int64} {M_kept : Nat → Int64} {M_had : Nat → Int32} {M_told : Nat → Int64} {M_first : Nat → Int64} {M_second : Nat → Int64} {M_node : Nat → Int64} {M_nodeVariable : Nat → Int32} {M_nodeLow : Nat → Int32} {M_nodeHigh : Nat → Int32} {M_wait : Nat → Int32}  {k : Int32 → Int32 → Int32 → Int32 → Int32 → Int32 → Int32 → Int32 → Int32 → Int32 → Int32 → Int32 → (Nat → Int32) → (Nat → Int32) → (Nat → Int32) → (Nat → Int32) → (Nat → Int32) → (Nat → Int32) → (Nat → Int32) → (Nat → Int32) → Prop}  (C0 : CX p s m args meth c b_M_read 3 (some .int) R_M "read" D ca tp A) :
    ∀ (x1 : Int32) (x2 : Int32) (M_clauses : Int32) (M_given : Int32) (M_end : Int32) (M_taped : Int32) (M_size : Int32) (M_at : Int32) (M_to : Int32) (M_sort : Int32) (M_worth : Int32) (M_faultKind : Int32) (M_faultPlace : Int32) (M_plain : Nat → Int32) (M_minus : Nat → Int32) (M_block : Nat → Int32) (M_left : Nat → Int32) (M_right : Nat → Int32) (M_pivot : Nat → Int32) (M_live : Nat → Int32) (M_needed : Nat → Int32) {H : Heap} {locs : List Loc} {ls : Array Slot}, p_M_read_J99 k x1 x2 M_clauses M_given M_end M_taped M_size M_at M_to M_sort M_worth M_faultKind M_faultPlace M_plain M_minus M_block M_left M_right M_pivot M_live M_needed → WH D A s (WM am ca M_clauses M_given M_end M_taped M_size M_at M_to M_sort M_worth M_faultKind M_faultPlace M_isTold M_nodes M_plain M_minus M_block M_left M_right M_pivot M_live M_needed M_label M_tape M_of M_kept M_had M_told M_first M_second M_node M_nodeVariable M_nodeLow M_nodeHigh M_wait) H locs → lv_has ls 3 [(0, .ref (am 0)), (1, .int x1), (2, .int x2)] →
      W p l e rm_M_read s m args below meth c H locs 0 0 (QI D A below args s (fun r (u : Int32 × Int32 × Int32 × Int32 × Int32 × Int32 × Int32 × Int32 × Int32 × Int32 × Int32 × (Nat → Int32) × (Nat → Int32) × (Nat → Int32) × (Nat → Int32) × (Nat → Int32) × (Nat → Int32) × (Nat → Int32) × (Nat → Int32)) => k r u.1 u.2.1 u.2.2.1 u.2.2.2.1 u.2.2.2.2.1 u.2.2.2.2.2.1 u.2.2.2.2.2.2.1 u.2.2.2.2.2.2.2.1 u.2.2.2.2.2.2.2.2.1 u.2.2.2.2.2.2.2.2.2.1 u.2.2.2.2.2.2.2.2.2.2.1 u.2.2.2.2.2.2.2.2.2.2.2.1 u.2.2.2.2.2.2.2.2.2.2.2.2.1 u.2.2.2.2.2.2.2.2.2.2.2.2.2.1 u.2.2.2.2.2.2.2.2.2.2.2.2.2.2.1 u.2.2.2.2.2.2.2.2.2.2.2.2.2.2.2.1 u.2.2.2.2.2.2.2.2.2.2.2.2.2.2.2.2.1 u.2.2.2.2.2.2.2.2.2.2.2.2.2.2.2.2.2.1 u.2.2.2.2.2.2.2.2.2.2.2.2.2.2.2.2.2.2) (fun (u : Int32 × Int32 × Int32 × Int32 × Int32 × Int32 × Int32 × Int32 × Int32 × Int32 × Int32 × (Nat → Int32) × (Nat → Int32) × (Nat → Int32) × (Nat → Int32) × (Nat → Int32) × (Nat → Int32) × (Nat → Int32) × (Nat → Int32)) => WM am ca u.1 u.2.1 u.2.2.1 u.2.2.2.1 u.2.2.2.2.1 u.2.2.2.2.2.1 u.2.2.2.2.2.2.1 u.2.2.2.2.2.2.2.1 u.2.2.2.2.2.2.2.2.1 u.2.2.2.2.2.2.2.2.2.1 u.2.2.2.2.2.2.2.2.2.2.1 M_isTold M_nodes u.2.2.2.2.2.2.2.2.2.2.2.1 u.2.2.2.2.2.2.2.2.2.2.2.2.1 u.2.2.2.2.2.2.2.2.2.2.2.2.2.1 u.2.2.2.2.2.2.2.2.2.2.2.2.2.2.1 u.2.2.2.2.2.2.2.2.2.2.2.2.2.2.2.1 u.2.2.2.2.2.2.2.2.2.2.2.2.2.2.2.2.1 u.2.2.2.2.2.2.2.2.2.2.2.2.2.2.2.2.2.1 u.2.2.2.2.2.2.2.2.2.2.2.2.2.2.2.2.2.2 M_label M_tape M_of M_kept M_had M_told M_first M_second M_node M_nodeVariable M_nodeLow M_nodeHigh M_wait) 0 0) (F0 m 99 ls []) := by
  have hx := C0.1
  have hb := C0.2.1
  intro x1 x2 M_clauses M_given M_end M_taped M_size M_at M_to M_sort M_worth M_faultKind M_faultPlace M_plain M_minus M_block M_left M_right M_pivot M_live M_needed H locs ls h hw hl
  unfold p_M_read_J99 at h
  refine lv_aload_n hx hb d_M_read_99 rfl (lv_at hl 0 rfl) ?_
  refine x_get C0 hw 0 rfl rfl i_M 19 (by decide) wm_744 rfl rfl d_M_read_100 ?_
  refine lv_if_le (tgt := 118) hx hb d_M_read_103 (by decide) (fun c_60 => ?_) (fun c_60 => ?_)
  · have h := h.1 c_60
    refine lv_aload_n hx hb d_M_read_118 rfl (lv_at hl 0 rfl) ?_
    refine x_callVv C0 hw hl (c_M_find h) g_M_find wm_871 ⟨wm_40, wm_873⟩ 0 rfl rfl rfl (As := []) (rest := []) rfl rfl (Nat.le_of_ble_eq_true rfl) ⟨rfl, rfl⟩ ⟨Nat.le_of_ble_eq_true rfl, Nat.le_of_ble_eq_true rfl⟩ ⟨Nat.le_of_ble_eq_true rfl, Nat.le_of_ble_eq_true rfl⟩ d_M_read_119 (fun u H locs h hw => ?_)
    obtain ⟨M_end_61, M_needed_62⟩ := u
    refine lv_aload_n hx hb d_M_read_122 rfl (lv_at hl 0 rfl) ?_
    refine x_get C0 hw 0 rfl rfl i_M 8 (by decide) wm_733 rfl rfl d_M_read_123 ?_
    refine lv_iload_n hx hb d_M_read_126 rfl (lv_at hl 1 rfl) ?_
    refine lv_isub hx hb d_M_read_127 ?_
    exact x_iret C0 hw (M_clauses, M_given, M_end_61, M_taped, M_size, M_at, M_to, M_sort, M_worth, M_faultKind, M_faultPlace, M_plain, M_minus, M_block, M_left, M_right, M_pivot, M_live, M_needed_62) h rfl d_M_read_128
  · have h := h.2 c_60
    refine lv_aload_n hx hb d_M_read_106 rfl (lv_at hl 0 rfl) ?_
    refine lv_iload_n hx hb d_M_read_107 rfl (lv_at hl 1 rfl) ?_
    refine x_put C0 hw 0 rfl rfl i_M tk_M n_M 8 (by decide) wm_733 rfl rfl rfl rfl (Nat.le_of_ble_eq_true rfl) (ws' := WM am ca x1 M_given M_end M_taped M_size M_at M_to M_sort M_worth M_faultKind M_faultPlace M_isTold M_nodes M_plain M_minus M_block M_left M_right M_pivot M_live M_needed M_label M_tape M_of M_kept M_had M_told M_first M_second M_node M_nodeVariable M_nodeLow M_nodeHigh M_wait) rfl d_M_read_108 (fun H locs hw => ?_)
    refine lv_aload_n hx hb d_M_read_111 rfl (lv_at hl 0 rfl) ?_
    refine lv_iload_n hx hb d_M_read_112 rfl (lv_at hl 2 rfl) ?_
    refine x_put C0 hw 0 rfl rfl i_M tk_M n_M 9 (by decide) wm_734 rfl rfl rfl rfl (Nat.le_of_ble_eq_true rfl) (ws' := WM am ca x1 x2 M_end M_taped M_size M_at M_to M_sort M_worth M_faultKind M_faultPlace M_isTold M_nodes M_plain M_minus M_block M_left M_right M_pivot M_live M_needed M_label M_tape M_of M_kept M_had M_told M_first M_second M_node M_nodeVariable M_nodeLow M_nodeHigh M_wait) rfl d_M_read_113 (fun H locs hw => ?_)
    refine lv_iconst (v := -1) hx hb d_M_read_116 (by decide) ?_
    exact x_iret C0 hw (x1, x2, M_end, M_taped, M_size, M_at, M_to, M_sort, M_worth, M_faultKind, M_faultPlace, M_plain, M_minus, M_block, M_left, M_right, M_pivot, M_live, M_needed) h rfl d_M_read_117
set_option maxHeartbeats 4000000 in
set_option maxRecDepth 100000 in
theorem c_M_read {l : Launch} {D : va_G} {ca : Nat → ClassId} {tp : Nat} {am : Nat → Nat} {M_clauses : Int32} {M_given : Int32} {M_end : Int32} {M_taped : Int32} {M_size : Int32} {M_at : Int32} {M_to : Int32} {M_sort : Int32} {M_worth : Int32} {M_faultKind : Int32} {M_faultPlace : Int32} {M_isTold : Int32} {M_nodes : Int32} {M_plain : Nat → Int32} {M_minus : Nat → Int32} {M_block : Nat → Int32} {M_left : Nat → Int32} {M_right : Nat → Int32} {M_pivot : Nat → Int32} {M_live : Nat → Int32} {M_needed : Nat → Int32} {M_label : Nat → Int32} {M_tape : Nat → Int32} {M_of : Nat → Int64} {M_kept : Nat → Int64} {M_had : Nat → Int32} {M_told : Nat → Int64} {M_first : Nat → Int64} {M_second : Nat → Int64} {M_node : Nat → Int64} {M_nodeVariable : Nat → Int32} {M_nodeLow : Nat → Int32} {M_nodeHigh : Nat → Int32} {M_wait : Nat → Int32}  {k : Int32 → Int32 → Int32 → Int32 → Int32 → Int32 → Int32 → Int32 → Int32 → Int32 → Int32 → Int32 → (Nat → Int32) → (Nat → Int32) → (Nat → Int32) → (Nat → Int32) → (Nat → Int32) → (Nat → Int32) → (Nat → Int32) → (Nat → Int32) → Prop} (h : p_M_read M_clauses M_given M_end M_taped M_at M_sort M_worth M_plain M_minus M_block M_left M_right M_pivot M_live M_needed M_tape k) :
    MTi l y_M_read b_M_read 3 (some .int) rm_M_read D ca tp [.ref (am 0)] (WM am ca M_clauses M_given M_end M_taped M_size M_at M_to M_sort M_worth M_faultKind M_faultPlace M_isTold M_nodes M_plain M_minus M_block M_left M_right M_pivot M_live M_needed M_label M_tape M_of M_kept M_had M_told M_first M_second M_node M_nodeVariable M_nodeLow M_nodeHigh M_wait)
      (fun r (u : Int32 × Int32 × Int32 × Int32 × Int32 × Int32 × Int32 × Int32 × Int32 × Int32 × Int32 × (Nat → Int32) × (Nat → Int32) × (Nat → Int32) × (Nat → Int32) × (Nat → Int32) × (Nat → Int32) × (Nat → Int32) × (Nat → Int32)) => k r u.1 u.2.1 u.2.2.1 u.2.2.2.1 u.2.2.2.2.1 u.2.2.2.2.2.1 u.2.2.2.2.2.2.1 u.2.2.2.2.2.2.2.1 u.2.2.2.2.2.2.2.2.1 u.2.2.2.2.2.2.2.2.2.1 u.2.2.2.2.2.2.2.2.2.2.1 u.2.2.2.2.2.2.2.2.2.2.2.1 u.2.2.2.2.2.2.2.2.2.2.2.2.1 u.2.2.2.2.2.2.2.2.2.2.2.2.2.1 u.2.2.2.2.2.2.2.2.2.2.2.2.2.2.1 u.2.2.2.2.2.2.2.2.2.2.2.2.2.2.2.1 u.2.2.2.2.2.2.2.2.2.2.2.2.2.2.2.2.1 u.2.2.2.2.2.2.2.2.2.2.2.2.2.2.2.2.2.1 u.2.2.2.2.2.2.2.2.2.2.2.2.2.2.2.2.2.2)
      (fun (u : Int32 × Int32 × Int32 × Int32 × Int32 × Int32 × Int32 × Int32 × Int32 × Int32 × Int32 × (Nat → Int32) × (Nat → Int32) × (Nat → Int32) × (Nat → Int32) × (Nat → Int32) × (Nat → Int32) × (Nat → Int32) × (Nat → Int32)) => WM am ca u.1 u.2.1 u.2.2.1 u.2.2.2.1 u.2.2.2.2.1 u.2.2.2.2.2.1 u.2.2.2.2.2.2.1 u.2.2.2.2.2.2.2.1 u.2.2.2.2.2.2.2.2.1 u.2.2.2.2.2.2.2.2.2.1 u.2.2.2.2.2.2.2.2.2.2.1 M_isTold M_nodes u.2.2.2.2.2.2.2.2.2.2.2.1 u.2.2.2.2.2.2.2.2.2.2.2.2.1 u.2.2.2.2.2.2.2.2.2.2.2.2.2.1 u.2.2.2.2.2.2.2.2.2.2.2.2.2.2.1 u.2.2.2.2.2.2.2.2.2.2.2.2.2.2.2.1 u.2.2.2.2.2.2.2.2.2.2.2.2.2.2.2.2.1 u.2.2.2.2.2.2.2.2.2.2.2.2.2.2.2.2.2.1 u.2.2.2.2.2.2.2.2.2.2.2.2.2.2.2.2.2.2 M_label M_tape M_of M_kept M_had M_told M_first M_second M_node M_nodeVariable M_nodeLow M_nodeHigh M_wait) 0 0 := by
  refine x_entryi (own := R_M) (nm := "read") (by decide) rfl rfl (Nat.le_of_ble_eq_true rfl) (fun p e s m below meth c A ls C0 hw hl => ?_)
  have hx := C0.1
  have hb := C0.2.1
  have hl : lv_has ls 3 [(0, .ref (am 0))] := hl
  unfold p_M_read at h
  refine lv_aload_n hx hb d_M_read_0 rfl (lv_at hl 0 rfl) ?_
  refine lv_aload_n hx hb d_M_read_1 rfl (lv_at hl 0 rfl) ?_
  refine x_get C0 hw 0 rfl rfl i_M 13 (by decide) wm_738 rfl rfl d_M_read_2 ?_
  refine x_put C0 hw 0 rfl rfl i_M tk_M n_M 14 (by decide) wm_739 rfl rfl rfl rfl (Nat.le_of_ble_eq_true rfl) (ws' := WM am ca M_clauses M_given M_end M_taped M_taped M_at M_to M_sort M_worth M_faultKind M_faultPlace M_isTold M_nodes M_plain M_minus M_block M_left M_right M_pivot M_live M_needed M_label M_tape M_of M_kept M_had M_told M_first M_second M_node M_nodeVariable M_nodeLow M_nodeHigh M_wait) rfl d_M_read_5 (fun H locs hw => ?_)
  refine lv_aload_n hx hb d_M_read_8 rfl (lv_at hl 0 rfl) ?_
  refine lv_iconst (v := 0) hx hb d_M_read_9 (by decide) ?_
  refine x_put C0 hw 0 rfl rfl i_M tk_M n_M 13 (by decide) wm_738 rfl rfl rfl rfl (Nat.le_of_ble_eq_true rfl) (ws' := WM am ca M_clauses M_given M_end (0 : Int32) M_taped M_at M_to M_sort M_worth M_faultKind M_faultPlace M_isTold M_nodes M_plain M_minus M_block M_left M_right M_pivot M_live M_needed M_label M_tape M_of M_kept M_had M_told M_first M_second M_node M_nodeVariable M_nodeLow M_nodeHigh M_wait) rfl d_M_read_10 (fun H locs hw => ?_)
  refine lv_aload_n hx hb d_M_read_13 rfl (lv_at hl 0 rfl) ?_
  refine lv_iconst (v := 0) hx hb d_M_read_14 (by decide) ?_
  refine x_put C0 hw 0 rfl rfl i_M tk_M n_M 16 (by decide) wm_741 rfl rfl rfl rfl (Nat.le_of_ble_eq_true rfl) (ws' := WM am ca M_clauses M_given M_end (0 : Int32) M_taped M_at (0 : Int32) M_sort M_worth M_faultKind M_faultPlace M_isTold M_nodes M_plain M_minus M_block M_left M_right M_pivot M_live M_needed M_label M_tape M_of M_kept M_had M_told M_first M_second M_node M_nodeVariable M_nodeLow M_nodeHigh M_wait) rfl d_M_read_15 (fun H locs hw => ?_)
  refine lv_aload_n hx hb d_M_read_18 rfl (lv_at hl 0 rfl) ?_
  refine lv_iconst (v := 0) hx hb d_M_read_19 (by decide) ?_
  refine x_put C0 hw 0 rfl rfl i_M tk_M n_M 19 (by decide) wm_744 rfl rfl rfl rfl (Nat.le_of_ble_eq_true rfl) (ws' := WM am ca M_clauses M_given M_end (0 : Int32) M_taped M_at (0 : Int32) M_sort M_worth (0 : Int32) M_faultPlace M_isTold M_nodes M_plain M_minus M_block M_left M_right M_pivot M_live M_needed M_label M_tape M_of M_kept M_had M_told M_first M_second M_node M_nodeVariable M_nodeLow M_nodeHigh M_wait) rfl d_M_read_20 (fun H locs hw => ?_)
  refine lv_aload_n hx hb d_M_read_23 rfl (lv_at hl 0 rfl) ?_
  refine lv_iconst (v := -1) hx hb d_M_read_24 (by decide) ?_
  refine x_put C0 hw 0 rfl rfl i_M tk_M n_M 20 (by decide) wm_745 rfl rfl rfl rfl (Nat.le_of_ble_eq_true rfl) (ws' := WM am ca M_clauses M_given M_end (0 : Int32) M_taped M_at (0 : Int32) M_sort M_worth (0 : Int32) (-1 : Int32) M_isTold M_nodes M_plain M_minus M_block M_left M_right M_pivot M_live M_needed M_label M_tape M_of M_kept M_had M_told M_first M_second M_node M_nodeVariable M_nodeLow M_nodeHigh M_wait) rfl d_M_read_25 (fun H locs hw => ?_)
  refine lv_aload_n hx hb d_M_read_28 rfl (lv_at hl 0 rfl) ?_
  refine x_get C0 hw 0 rfl rfl i_M 8 (by decide) wm_733 rfl rfl d_M_read_29 ?_
  refine lv_istore_n (lv' := [(1, .int M_clauses), (0, .ref (am 0))]) hx hb d_M_read_32 rfl hl (by decide) rfl (fun ls hl => ?_)
  refine lv_aload_n hx hb d_M_read_33 rfl (lv_at hl 1 rfl) ?_
  refine x_get C0 hw 0 rfl rfl i_M 9 (by decide) wm_734 rfl rfl d_M_read_34 ?_
  refine lv_istore_n (lv' := [(2, .int M_given), (1, .int M_clauses), (0, .ref (am 0))]) hx hb d_M_read_37 rfl hl (by decide) rfl (fun ls hl => ?_)
  refine lv_aload_n hx hb d_M_read_38 rfl (lv_at hl 2 rfl) ?_
  refine x_callVv C0 hw hl (c_M_cut h) g_M_cut wm_840 ⟨wm_33, wm_842⟩ 0 rfl rfl rfl (As := []) (rest := []) rfl rfl (Nat.le_of_ble_eq_true rfl) ⟨rfl, rfl⟩ ⟨Nat.le_of_ble_eq_true rfl, Nat.le_of_ble_eq_true rfl⟩ ⟨Nat.le_of_ble_eq_true rfl, Nat.le_of_ble_eq_true rfl⟩ d_M_read_39 (fun u H locs h hw => ?_)
  obtain ⟨M_at_1, M_to_2, M_sort_3, M_worth_4⟩ := u
  obtain ⟨j_64, h⟩ := h
  refine b_M_read_L42 C0 _ _ _ _ _ _ _ _ _ _ _ _ _ _ _ _ h hw (lv_sub hl [2, 1, 0] rfl) (fun M_clauses_45 M_given_46 M_at_47 M_to_48 M_sort_49 M_worth_50 M_faultKind_51 M_faultPlace_52 M_plain_53 M_minus_54 M_block_55 M_left_56 M_right_57 M_pivot_58 M_live_59 H locs ls h hw hl => ?_)
  refine b_M_read_J99 C0 _ _ _ _ _ _ _ _ _ _ _ _ _ _ _ _ _ _ _ _ _ h hw (lv_sub hl [0, 1, 2] rfl)
theorem g_M_fault : GY y_M_fault b_M_fault 2 (some .int) 1 := ⟨wm_882, wm_62, by decide +kernel, by decide +kernel, by decide +kernel⟩
def p_M_fault (M_faultKind : Int32) (M_faultPlace : Int32) (x1 : Int32) (k : Int32 → Prop) : Prop :=
  ((¬ x1 = 0 → ((¬ x1 = (1 : Int32) → (k (-1 : Int32))) ∧ (x1 = (1 : Int32) → (k M_faultPlace)))) ∧ (x1 = 0 → (k M_faultKind)))
abbrev rm_M_fault : Room := { frames := 0, cells := 0, slots := 0, locals := 0 }
set_option maxHeartbeats 4000000 in
set_option maxRecDepth 100000 in
theorem c_M_fault {l : Launch} {D : va_G} {ca : Nat → ClassId} {tp : Nat} {am : Nat → Nat} {M_clauses : Int32} {M_given : Int32} {M_end : Int32} {M_taped : Int32} {M_size : Int32} {M_at : Int32} {M_to : Int32} {M_sort : Int32} {M_worth : Int32} {M_faultKind : Int32} {M_faultPlace : Int32} {M_isTold : Int32} {M_nodes : Int32} {M_plain : Nat → Int32} {M_minus : Nat → Int32} {M_block : Nat → Int32} {M_left : Nat → Int32} {M_right : Nat → Int32} {M_pivot : Nat → Int32} {M_live : Nat → Int32} {M_needed : Nat → Int32} {M_label : Nat → Int32} {M_tape : Nat → Int32} {M_of : Nat → Int64} {M_kept : Nat → Int64} {M_had : Nat → Int32} {M_told : Nat → Int64} {M_first : Nat → Int64} {M_second : Nat → Int64} {M_node : Nat → Int64} {M_nodeVariable : Nat → Int32} {M_nodeLow : Nat → Int32} {M_nodeHigh : Nat → Int32} {M_wait : Nat → Int32} {x1 : Int32} {k : Int32 → Prop} (h : p_M_fault M_faultKind M_faultPlace x1 k) :
    MTi l y_M_fault b_M_fault 2 (some .int) rm_M_fault D ca tp [.ref (am 0), .int x1] (WM am ca M_clauses M_given M_end M_taped M_size M_at M_to M_sort M_worth M_faultKind M_faultPlace M_isTold M_nodes M_plain M_minus M_block M_left M_right M_pivot M_live M_needed M_label M_tape M_of M_kept M_had M_told M_first M_second M_node M_nodeVariable M_nodeLow M_nodeHigh M_wait)
      (fun r (_ : Unit) => k r)
      (fun (_ : Unit) => WM am ca M_clauses M_given M_end M_taped M_size M_at M_to M_sort M_worth M_faultKind M_faultPlace M_isTold M_nodes M_plain M_minus M_block M_left M_right M_pivot M_live M_needed M_label M_tape M_of M_kept M_had M_told M_first M_second M_node M_nodeVariable M_nodeLow M_nodeHigh M_wait) 0 0 := by
  refine x_entryi (own := R_M) (nm := "fault") (by decide) rfl rfl (Nat.le_of_ble_eq_true rfl) (fun p e s m below meth c A ls C0 hw hl => ?_)
  have hx := C0.1
  have hb := C0.2.1
  have hl : lv_has ls 2 [(0, .ref (am 0)), (1, .int x1)] := hl
  unfold p_M_fault at h
  refine lv_iload_n hx hb d_M_fault_0 rfl (lv_at hl 1 rfl) ?_
  refine lv_if_ne (tgt := 11) hx hb d_M_fault_1 (by decide) (fun c_1 => ?_) (fun c_1 => ?_)
  · have h := h.1 c_1
    refine lv_iload_n hx hb d_M_fault_11 rfl (lv_at hl 1 rfl) ?_
    refine lv_iconst (v := 1) hx hb d_M_fault_12 (by decide) ?_
    refine lv_icmp_ne (tgt := 23) hx hb d_M_fault_13 (by decide) (fun c_2 => ?_) (fun c_2 => ?_)
    · have h := h.1 c_2
      refine lv_iconst (v := -1) hx hb d_M_fault_23 (by decide) ?_
      exact x_iret C0 hw () h rfl d_M_fault_24
    · have h := h.2 c_2
      refine lv_aload_n hx hb d_M_fault_16 rfl (lv_at hl 0 rfl) ?_
      refine x_get C0 hw 0 rfl rfl i_M 20 (by decide) wm_745 rfl rfl d_M_fault_17 ?_
      refine lv_goto (tgt := 24) hx hb d_M_fault_20 (by decide) ?_
      exact x_iret C0 hw () h rfl d_M_fault_24
  · have h := h.2 c_1
    refine lv_aload_n hx hb d_M_fault_4 rfl (lv_at hl 0 rfl) ?_
    refine x_get C0 hw 0 rfl rfl i_M 19 (by decide) wm_744 rfl rfl d_M_fault_5 ?_
    refine lv_goto (tgt := 24) hx hb d_M_fault_8 (by decide) ?_
    exact x_iret C0 hw () h rfl d_M_fault_24
theorem g_M_clear : GY y_M_clear b_M_clear 3 (some .int) 0 := ⟨wm_886, wm_62, by decide +kernel, by decide +kernel, by decide +kernel⟩
def p_M_clear_L17 (M_clauses : Int32) (M_given : Int32) (M_plain : Nat → Int32) (M_minus : Nat → Int32) (M_block : Nat → Int32) (M_left : Nat → Int32) (M_right : Nat → Int32) (M_needed : Nat → Int32) (x1 : Int32) (k : Int32 → Int32 → Int32 → Int32 → (Nat → Int32) → (Nat → Int32) → Prop) : Nat → Int32 → (Nat → Int32) → Prop
  | 0, _, _ => False
  | n + 1, x2, M_label =>
    (((11 : Int32) ≤ x2 → (p_M_find M_clauses M_plain M_minus M_block M_left M_right M_needed (fun (M_end_2 : Int32) (M_needed_3 : Nat → Int32) => (k x1 M_clauses M_given M_end_2 M_needed_3 M_label)))) ∧ (¬ (11 : Int32) ≤ x2 → (vp_in x2 11 ∧ (p_M_clear_L17 M_clauses M_given M_plain M_minus M_block M_left M_right M_needed x1 k n (x2 + 1) (upd M_label x2.toNatClampNeg (0 : Int32))))))
def p_M_clear (M_clauses : Int32) (M_plain : Nat → Int32) (M_minus : Nat → Int32) (M_block : Nat → Int32) (M_left : Nat → Int32) (M_right : Nat → Int32) (M_needed : Nat → Int32) (M_label : Nat → Int32) (k : Int32 → Int32 → Int32 → Int32 → (Nat → Int32) → (Nat → Int32) → Prop) : Prop :=
  (∃ j_6, p_M_clear_L17 (0 : Int32) (0 : Int32) M_plain M_minus M_block M_left M_right M_needed M_clauses k j_6 (0 : Int32) M_label)
abbrev rm_M_clear : Room := { frames := 2, cells := 0, slots := 0, locals := 42 }
set_option maxHeartbeats 4000000 in
set_option maxRecDepth 100000 in
theorem b_M_clear_L17 {p : Program} {l : Launch} {e : Env} {s : State} {m : MethodId} {args : Array Value} {below : List Frame} {meth : Method} {c : Code} {D : va_G} {ca : Nat → ClassId} {tp : Nat} {A : Nat → Prop} {am : Nat → Nat} {M_clauses : Int32} {M_given : Int32} {M_end : Int32} {M_taped : Int32} {M_size : Int32} {M_at : Int32} {M_to : Int32} {M_sort : Int32} {M_worth : Int32} {M_faultKind : Int32} {M_faultPlace : Int32} {M_isTold : Int32} {M_nodes : Int32} {M_plain : Nat → Int32} {M_minus : Nat → Int32} {M_block : Nat → Int32} {M_left : Nat → Int32} {M_right : Nat → Int32} {M_pivot : Nat → Int32} {M_live : Nat → Int32} {M_needed : Nat → Int32} {M_tape : Nat → Int32} {M_of : Nat → Int64} {M_kept : Nat → Int64} {M_had : Nat → Int32} {M_told : Nat → Int64} {M_first : Nat → Int64} {M_second : Nat → Int64} {M_node : Nat → Int64} {M_nodeVariable : Nat → Int32} {M_nodeLow : Nat → Int32} {M_nodeHigh : Nat → Int32} {M_wait : Nat → Int32} {x1 : Int32} {k : Int32 → Int32 → Int32 → Int32 → (Nat → Int32) → (Nat → Int32) → Prop}  (C0 : CX p s m args meth c b_M_clear 3 (some .int) R_M "clear" D ca tp A) :
    ∀ (n : Nat) (x2 : Int32) (M_label : Nat → Int32) {H : Heap} {locs : List Loc} {ls : Array Slot}, p_M_clear_L17 M_clauses M_given M_plain M_minus M_block M_left M_right M_needed x1 k n x2 M_label → WH D A s (WM am ca M_clauses M_given M_end M_taped M_size M_at M_to M_sort M_worth M_faultKind M_faultPlace M_isTold M_nodes M_plain M_minus M_block M_left M_right M_pivot M_live M_needed M_label M_tape M_of M_kept M_had M_told M_first M_second M_node M_nodeVariable M_nodeLow M_nodeHigh M_wait) H locs → lv_has ls 3 [(0, .ref (am 0)), (1, .int x1), (2, .int x2)] →
      W p l e rm_M_clear s m args below meth c H locs 0 0 (QI D A below args s (fun r (u : Int32 × Int32 × Int32 × (Nat → Int32) × (Nat → Int32)) => k r u.1 u.2.1 u.2.2.1 u.2.2.2.1 u.2.2.2.2) (fun (u : Int32 × Int32 × Int32 × (Nat → Int32) × (Nat → Int32)) => WM am ca u.1 u.2.1 u.2.2.1 M_taped M_size M_at M_to M_sort M_worth M_faultKind M_faultPlace M_isTold M_nodes M_plain M_minus M_block M_left M_right M_pivot M_live u.2.2.2.1 u.2.2.2.2 M_tape M_of M_kept M_had M_told M_first M_second M_node M_nodeVariable M_nodeLow M_nodeHigh M_wait) 0 0) (F0 m 17 ls []) := by
  have hx := C0.1
  have hb := C0.2.1
  intro n
  induction n with
  | zero =>
    intro x2 M_label H locs ls h
    exact False.elim h
  | succ n ih =>
    intro x2 M_label H locs ls h hw hl
    unfold p_M_clear_L17 at h
    refine lv_iload_n hx hb d_M_clear_17 rfl (lv_at hl 2 rfl) ?_
    refine lv_bipush (v := 11) hx hb d_M_clear_18 (by decide) ?_
    refine lv_icmp_ge (tgt := 36) hx hb d_M_clear_20 (by decide) (fun c_1 => ?_) (fun c_1 => ?_)
    · have h := h.1 c_1
      refine lv_aload_n hx hb d_M_clear_36 rfl (lv_at hl 0 rfl) ?_
      refine x_callVv C0 hw hl (c_M_find h) g_M_find wm_871 ⟨wm_40, wm_873⟩ 0 rfl rfl rfl (As := []) (rest := []) rfl rfl (Nat.le_of_ble_eq_true rfl) ⟨rfl, rfl⟩ ⟨Nat.le_of_ble_eq_true rfl, Nat.le_of_ble_eq_true rfl⟩ ⟨Nat.le_of_ble_eq_true rfl, Nat.le_of_ble_eq_true rfl⟩ d_M_clear_37 (fun u H locs h hw => ?_)
      obtain ⟨M_end_2, M_needed_3⟩ := u
      refine lv_iload_n hx hb d_M_clear_40 rfl (lv_at hl 1 rfl) ?_
      exact x_iret C0 hw (M_clauses, M_given, M_end_2, M_needed_3, M_label) h rfl d_M_clear_41
    · have h := h.2 c_1
      refine lv_aload_n hx hb d_M_clear_23 rfl (lv_at hl 0 rfl) ?_
      refine x_get C0 hw 0 rfl rfl i_M 11 (by decide) wm_736 rfl rfl d_M_clear_24 ?_
      refine lv_iload_n hx hb d_M_clear_27 rfl (lv_at hl 2 rfl) ?_
      refine lv_iconst (v := 0) hx hb d_M_clear_28 (by decide) ?_
      obtain ⟨hi_5, h⟩ := h
      refine x_iast C0 hw 9 rfl hi_5 (ws' := WM am ca M_clauses M_given M_end M_taped M_size M_at M_to M_sort M_worth M_faultKind M_faultPlace M_isTold M_nodes M_plain M_minus M_block M_left M_right M_pivot M_live M_needed (upd M_label x2.toNatClampNeg (0 : Int32)) M_tape M_of M_kept M_had M_told M_first M_second M_node M_nodeVariable M_nodeLow M_nodeHigh M_wait) rfl d_M_clear_29 (fun H locs hw => ?_)
      refine lv_iinc (v := (x2 + 1)) (lv' := [(2, .int (x2 + 1)), (0, .ref (am 0)), (1, .int x1)]) hx hb d_M_clear_30 hl (k := 2) rfl rfl (by decide) rfl (fun ls hl => ?_)
      refine lv_goto (tgt := 17) hx hb d_M_clear_33 (by decide) ?_
      exact ih _ _ h hw (lv_sub hl [1, 2, 0] rfl)
set_option maxHeartbeats 4000000 in
set_option maxRecDepth 100000 in
theorem c_M_clear {l : Launch} {D : va_G} {ca : Nat → ClassId} {tp : Nat} {am : Nat → Nat} {M_clauses : Int32} {M_given : Int32} {M_end : Int32} {M_taped : Int32} {M_size : Int32} {M_at : Int32} {M_to : Int32} {M_sort : Int32} {M_worth : Int32} {M_faultKind : Int32} {M_faultPlace : Int32} {M_isTold : Int32} {M_nodes : Int32} {M_plain : Nat → Int32} {M_minus : Nat → Int32} {M_block : Nat → Int32} {M_left : Nat → Int32} {M_right : Nat → Int32} {M_pivot : Nat → Int32} {M_live : Nat → Int32} {M_needed : Nat → Int32} {M_label : Nat → Int32} {M_tape : Nat → Int32} {M_of : Nat → Int64} {M_kept : Nat → Int64} {M_had : Nat → Int32} {M_told : Nat → Int64} {M_first : Nat → Int64} {M_second : Nat → Int64} {M_node : Nat → Int64} {M_nodeVariable : Nat → Int32} {M_nodeLow : Nat → Int32} {M_nodeHigh : Nat → Int32} {M_wait : Nat → Int32}  {k : Int32 → Int32 → Int32 → Int32 → (Nat → Int32) → (Nat → Int32) → Prop} (h : p_M_clear M_clauses M_plain M_minus M_block M_left M_right M_needed M_label k) :
    MTi l y_M_clear b_M_clear 3 (some .int) rm_M_clear D ca tp [.ref (am 0)] (WM am ca M_clauses M_given M_end M_taped M_size M_at M_to M_sort M_worth M_faultKind M_faultPlace M_isTold M_nodes M_plain M_minus M_block M_left M_right M_pivot M_live M_needed M_label M_tape M_of M_kept M_had M_told M_first M_second M_node M_nodeVariable M_nodeLow M_nodeHigh M_wait)
      (fun r (u : Int32 × Int32 × Int32 × (Nat → Int32) × (Nat → Int32)) => k r u.1 u.2.1 u.2.2.1 u.2.2.2.1 u.2.2.2.2)
      (fun (u : Int32 × Int32 × Int32 × (Nat → Int32) × (Nat → Int32)) => WM am ca u.1 u.2.1 u.2.2.1 M_taped M_size M_at M_to M_sort M_worth M_faultKind M_faultPlace M_isTold M_nodes M_plain M_minus M_block M_left M_right M_pivot M_live u.2.2.2.1 u.2.2.2.2 M_tape M_of M_kept M_had M_told M_first M_second M_node M_nodeVariable M_nodeLow M_nodeHigh M_wait) 0 0 := by
  refine x_entryi (own := R_M) (nm := "clear") (by decide) rfl rfl (Nat.le_of_ble_eq_true rfl) (fun p e s m below meth c A ls C0 hw hl => ?_)
  have hx := C0.1
  have hb := C0.2.1
  have hl : lv_has ls 3 [(0, .ref (am 0))] := hl
  unfold p_M_clear at h
  refine lv_aload_n hx hb d_M_clear_0 rfl (lv_at hl 0 rfl) ?_
  refine x_get C0 hw 0 rfl rfl i_M 8 (by decide) wm_733 rfl rfl d_M_clear_1 ?_
  refine lv_istore_n (lv' := [(1, .int M_clauses), (0, .ref (am 0))]) hx hb d_M_clear_4 rfl hl (by decide) rfl (fun ls hl => ?_)
  refine lv_aload_n hx hb d_M_clear_5 rfl (lv_at hl 1 rfl) ?_
  refine lv_iconst (v := 0) hx hb d_M_clear_6 (by decide) ?_
  refine x_put C0 hw 0 rfl rfl i_M tk_M n_M 8 (by decide) wm_733 rfl rfl rfl rfl (Nat.le_of_ble_eq_true rfl) (ws' := WM am ca (0 : Int32) M_given M_end M_taped M_size M_at M_to M_sort M_worth M_faultKind M_faultPlace M_isTold M_nodes M_plain M_minus M_block M_left M_right M_pivot M_live M_needed M_label M_tape M_of M_kept M_had M_told M_first M_second M_node M_nodeVariable M_nodeLow M_nodeHigh M_wait) rfl d_M_clear_7 (fun H locs hw => ?_)
  refine lv_aload_n hx hb d_M_clear_10 rfl (lv_at hl 1 rfl) ?_
  refine lv_iconst (v := 0) hx hb d_M_clear_11 (by decide) ?_
  refine x_put C0 hw 0 rfl rfl i_M tk_M n_M 9 (by decide) wm_734 rfl rfl rfl rfl (Nat.le_of_ble_eq_true rfl) (ws' := WM am ca (0 : Int32) (0 : Int32) M_end M_taped M_size M_at M_to M_sort M_worth M_faultKind M_faultPlace M_isTold M_nodes M_plain M_minus M_block M_left M_right M_pivot M_live M_needed M_label M_tape M_of M_kept M_had M_told M_first M_second M_node M_nodeVariable M_nodeLow M_nodeHigh M_wait) rfl d_M_clear_12 (fun H locs hw => ?_)
  refine lv_iconst (v := 0) hx hb d_M_clear_15 (by decide) ?_
  refine lv_istore_n (lv' := [(2, .int (0 : Int32)), (1, .int M_clauses), (0, .ref (am 0))]) hx hb d_M_clear_16 rfl hl (by decide) rfl (fun ls hl => ?_)
  obtain ⟨j_6, h⟩ := h
  refine b_M_clear_L17 C0 _ _ _ h hw (lv_sub hl [2, 1, 0] rfl)

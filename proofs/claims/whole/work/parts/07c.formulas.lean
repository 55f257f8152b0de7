theorem g_J_fillI : GY y_J_fillI b_J_fillI 4 none 2 := ⟨wm_219, wm_58, by decide +kernel, by decide +kernel, by decide +kernel⟩
def p_J_fillI_L5 (x1 : Int32) (x3 : Int32) (k : (Nat → Int32) → Prop) : Nat → Int32 → (Nat → Int32) → Prop
  | 0, _, _ => False
  | n + 1, x2, L_of =>
    ((x3 ≤ x2 → (k L_of)) ∧ (¬ x3 ≤ x2 → (vp_in x2 11 ∧ (p_J_fillI_L5 x1 x3 k n (x2 + 1) (upd L_of x2.toNatClampNeg x1)))))
def p_J_fillI (L_of : Nat → Int32) (x1 : Int32) (k : (Nat → Int32) → Prop) : Prop :=
  (∃ j_3, p_J_fillI_L5 x1 (11 : Int32) k j_3 (0 : Int32) L_of)
abbrev rm_J_fillI : Room := { frames := 0, cells := 0, slots := 0, locals := 0 }
set_option maxHeartbeats 4000000 in
set_option maxRecDepth 100000 in
theorem b_J_fillI_L5 {p : Program} {l : Launch} {e : Env} {s : State} {m : MethodId} {args : Array Value} {below : List Frame} {meth : Method} {c : Code} {D : va_G} {ca : Nat → ClassId} {tp : Nat} {A : Nat → Prop} {ad : Nat → Nat} {T_length : Int32} {T_bytes : Nat → Int32} {C_size : Int32} {C_given : Int32} {C_empty : Int32} {C_drafted : Int32} {C_draftedGiven : Int32} {C_block : Nat → Int32} {C_left : Nat → Int32} {C_right : Nat → Int32} {C_pivot : Nat → Int32} {C_positive : Nat → Int32} {C_negative : Nat → Int32} {C_live : Nat → Int32} {C_needed : Nat → Int32} {R_kind : Int32} {R_place : Int32} {R_at : Int32} {R_token : Int32} {R_tokenPlace : Int32} {R_number : Int32} {R_state : Int32} {R_block : Int32} {R_positive : Int32} {R_negative : Int32} {R_left : Int32} {R_right : Int32} {R_pivot : Int32} {F_cut : Int32} {F_labelledA : Int32} {F_labelledB : Int32} {F_row : Nat → Int64} {A_root : Int32} {A_words : Nat → Int64} {A_known : Nat → Int32} {G_size : Int32} {G_variable : Nat → Int32} {G_low : Nat → Int32} {G_high : Nat → Int32} {G_numberOf : Nat → Int32} {G_nodeOf : Nat → Int32} {G_sides : Nat → Int32} {G_waiting : Nat → Int32} {B_table : Nat → Int64} {B_nextTable : Nat → Int64} {x1 : Int32} {x3 : Int32} {k : (Nat → Int32) → Prop}  (C0 : CX p s m args meth c b_J_fillI 4 none R_J "fill" D ca tp A) :
    ∀ (n : Nat) (x2 : Int32) (L_of : Nat → Int32) {H : Heap} {locs : List Loc} {ls : Array Slot}, p_J_fillI_L5 x1 x3 k n x2 L_of → WH D A s (WB ad ca T_length T_bytes C_size C_given C_empty C_drafted C_draftedGiven C_block C_left C_right C_pivot C_positive C_negative C_live C_needed R_kind R_place R_at R_token R_tokenPlace R_number R_state R_block R_positive R_negative R_left R_right R_pivot L_of F_cut F_labelledA F_labelledB F_row A_root A_words A_known G_size G_variable G_low G_high G_numberOf G_nodeOf G_sides G_waiting B_table B_nextTable) H locs → lv_has ls 4 [(0, .ref (ad 14)), (1, .int x1), (2, .int x2), (3, .int x3)] →
      W p l e rm_J_fillI s m args below meth c H locs 0 0 (QV D A below args s (fun (u : (Nat → Int32)) => k u) (fun (u : (Nat → Int32)) => WB ad ca T_length T_bytes C_size C_given C_empty C_drafted C_draftedGiven C_block C_left C_right C_pivot C_positive C_negative C_live C_needed R_kind R_place R_at R_token R_tokenPlace R_number R_state R_block R_positive R_negative R_left R_right R_pivot u F_cut F_labelledA F_labelledB F_row A_root A_words A_known G_size G_variable G_low G_high G_numberOf G_nodeOf G_sides G_waiting B_table B_nextTable) 0 0) (F0 m 5 ls []) := by
  have hx := C0.1
  have hb := C0.2.1
  intro n
  induction n with
  | zero =>
    intro x2 L_of H locs ls h
    exact False.elim h
  | succ n ih =>
    intro x2 L_of H locs ls h hw hl
    unfold p_J_fillI_L5 at h
    refine lv_iload_n hx hb d_J_fillI_5 rfl (lv_at hl 2 rfl) ?_
    refine lv_iload_n hx hb d_J_fillI_6 rfl (lv_at hl 3 rfl) ?_
    refine lv_icmp_ge (tgt := 20) hx hb d_J_fillI_7 (by decide) (fun c_1 => ?_) (fun c_1 => ?_)
    · have h := h.1 c_1
      exact x_vret C0 hw L_of h rfl d_J_fillI_20
    · have h := h.2 c_1
      refine lv_aload_n hx hb d_J_fillI_10 rfl (lv_at hl 0 rfl) ?_
      refine lv_iload_n hx hb d_J_fillI_11 rfl (lv_at hl 2 rfl) ?_
      refine lv_iload_n hx hb d_J_fillI_12 rfl (lv_at hl 1 rfl) ?_
      obtain ⟨hi_2, h⟩ := h
      refine x_iast C0 hw 14 rfl hi_2 (ws' := WB ad ca T_length T_bytes C_size C_given C_empty C_drafted C_draftedGiven C_block C_left C_right C_pivot C_positive C_negative C_live C_needed R_kind R_place R_at R_token R_tokenPlace R_number R_state R_block R_positive R_negative R_left R_right R_pivot (upd L_of x2.toNatClampNeg x1) F_cut F_labelledA F_labelledB F_row A_root A_words A_known G_size G_variable G_low G_high G_numberOf G_nodeOf G_sides G_waiting B_table B_nextTable) rfl d_J_fillI_13 (fun H locs hw => ?_)
      refine lv_iinc (v := (x2 + 1)) (lv' := [(2, .int (x2 + 1)), (0, .ref (ad 14)), (1, .int x1), (3, .int x3)]) hx hb d_J_fillI_14 hl (k := 2) rfl rfl (by decide) rfl (fun ls hl => ?_)
      refine lv_goto (tgt := 5) hx hb d_J_fillI_17 (by decide) ?_
      exact ih _ _ h hw (lv_sub hl [1, 2, 0, 3] rfl)
set_option maxHeartbeats 4000000 in
set_option maxRecDepth 100000 in
theorem c_J_fillI {l : Launch} {D : va_G} {ca : Nat → ClassId} {tp : Nat} {ad : Nat → Nat} {T_length : Int32} {T_bytes : Nat → Int32} {C_size : Int32} {C_given : Int32} {C_empty : Int32} {C_drafted : Int32} {C_draftedGiven : Int32} {C_block : Nat → Int32} {C_left : Nat → Int32} {C_right : Nat → Int32} {C_pivot : Nat → Int32} {C_positive : Nat → Int32} {C_negative : Nat → Int32} {C_live : Nat → Int32} {C_needed : Nat → Int32} {R_kind : Int32} {R_place : Int32} {R_at : Int32} {R_token : Int32} {R_tokenPlace : Int32} {R_number : Int32} {R_state : Int32} {R_block : Int32} {R_positive : Int32} {R_negative : Int32} {R_left : Int32} {R_right : Int32} {R_pivot : Int32} {L_of : Nat → Int32} {F_cut : Int32} {F_labelledA : Int32} {F_labelledB : Int32} {F_row : Nat → Int64} {A_root : Int32} {A_words : Nat → Int64} {A_known : Nat → Int32} {G_size : Int32} {G_variable : Nat → Int32} {G_low : Nat → Int32} {G_high : Nat → Int32} {G_numberOf : Nat → Int32} {G_nodeOf : Nat → Int32} {G_sides : Nat → Int32} {G_waiting : Nat → Int32} {B_table : Nat → Int64} {B_nextTable : Nat → Int64} {x1 : Int32} {k : (Nat → Int32) → Prop} (h : p_J_fillI L_of x1 k) :
    MTv l y_J_fillI b_J_fillI 4 none rm_J_fillI D ca tp [.ref (ad 14), .int x1] (WB ad ca T_length T_bytes C_size C_given C_empty C_drafted C_draftedGiven C_block C_left C_right C_pivot C_positive C_negative C_live C_needed R_kind R_place R_at R_token R_tokenPlace R_number R_state R_block R_positive R_negative R_left R_right R_pivot L_of F_cut F_labelledA F_labelledB F_row A_root A_words A_known G_size G_variable G_low G_high G_numberOf G_nodeOf G_sides G_waiting B_table B_nextTable)
      (fun (u : (Nat → Int32)) => k u)
      (fun (u : (Nat → Int32)) => WB ad ca T_length T_bytes C_size C_given C_empty C_drafted C_draftedGiven C_block C_left C_right C_pivot C_positive C_negative C_live C_needed R_kind R_place R_at R_token R_tokenPlace R_number R_state R_block R_positive R_negative R_left R_right R_pivot u F_cut F_labelledA F_labelledB F_row A_root A_words A_known G_size G_variable G_low G_high G_numberOf G_nodeOf G_sides G_waiting B_table B_nextTable) 0 0 := by
  refine x_entryv (own := R_J) (nm := "fill") (by decide) rfl rfl (Nat.le_of_ble_eq_true rfl) (fun p e s m below meth c A ls C0 hw hl => ?_)
  have hx := C0.1
  have hb := C0.2.1
  have hl : lv_has ls 4 [(0, .ref (ad 14)), (1, .int x1)] := hl
  unfold p_J_fillI at h
  refine lv_iconst (v := 0) hx hb d_J_fillI_0 (by decide) ?_
  refine lv_istore_n (lv' := [(2, .int (0 : Int32)), (0, .ref (ad 14)), (1, .int x1)]) hx hb d_J_fillI_1 rfl hl (by decide) rfl (fun ls hl => ?_)
  refine lv_aload_n hx hb d_J_fillI_2 rfl (lv_at hl 1 rfl) ?_
  refine x_alen C0 hw 14 0 rfl rfl (v := 11) rfl d_J_fillI_3 ?_
  refine lv_istore_n (lv' := [(3, .int (11 : Int32)), (2, .int (0 : Int32)), (0, .ref (ad 14)), (1, .int x1)]) hx hb d_J_fillI_4 rfl hl (by decide) rfl (fun ls hl => ?_)
  obtain ⟨j_3, h⟩ := h
  refine b_J_fillI_L5 C0 _ _ _ h hw (lv_sub hl [2, 3, 1, 0] rfl)
theorem g_J_fillL : GY y_J_fillL b_J_fillL 5 none 2 := ⟨wm_695, wm_58, by decide +kernel, by decide +kernel, by decide +kernel⟩
def p_J_fillL_L6 (x1 : Int64) (x4 : Int32) (k : (Nat → Int64) → Prop) : Nat → Int32 → (Nat → Int64) → Prop
  | 0, _, _ => False
  | n + 1, x3, B_nextTable =>
    ((x4 ≤ x3 → (k B_nextTable)) ∧ (¬ x4 ≤ x3 → (vp_in x3 16 ∧ (p_J_fillL_L6 x1 x4 k n (x3 + 1) (vp_updL B_nextTable x3.toNatClampNeg x1)))))
def p_J_fillL (B_nextTable : Nat → Int64) (x1 : Int64) (k : (Nat → Int64) → Prop) : Prop :=
  (∃ j_3, p_J_fillL_L6 x1 (16 : Int32) k j_3 (0 : Int32) B_nextTable)
abbrev rm_J_fillL : Room := { frames := 0, cells := 0, slots := 0, locals := 0 }
set_option maxHeartbeats 4000000 in
set_option maxRecDepth 100000 in
theorem b_J_fillL_L6 {p : Program} {l : Launch} {e : Env} {s : State} {m : MethodId} {args : Array Value} {below : List Frame} {meth : Method} {c : Code} {D : va_G} {ca : Nat → ClassId} {tp : Nat} {A : Nat → Prop} {ad : Nat → Nat} {T_length : Int32} {T_bytes : Nat → Int32} {C_size : Int32} {C_given : Int32} {C_empty : Int32} {C_drafted : Int32} {C_draftedGiven : Int32} {C_block : Nat → Int32} {C_left : Nat → Int32} {C_right : Nat → Int32} {C_pivot : Nat → Int32} {C_positive : Nat → Int32} {C_negative : Nat → Int32} {C_live : Nat → Int32} {C_needed : Nat → Int32} {R_kind : Int32} {R_place : Int32} {R_at : Int32} {R_token : Int32} {R_tokenPlace : Int32} {R_number : Int32} {R_state : Int32} {R_block : Int32} {R_positive : Int32} {R_negative : Int32} {R_left : Int32} {R_right : Int32} {R_pivot : Int32} {L_of : Nat → Int32} {F_cut : Int32} {F_labelledA : Int32} {F_labelledB : Int32} {F_row : Nat → Int64} {A_root : Int32} {A_words : Nat → Int64} {A_known : Nat → Int32} {G_size : Int32} {G_variable : Nat → Int32} {G_low : Nat → Int32} {G_high : Nat → Int32} {G_numberOf : Nat → Int32} {G_nodeOf : Nat → Int32} {G_sides : Nat → Int32} {G_waiting : Nat → Int32} {B_table : Nat → Int64} {x1 : Int64} {x4 : Int32} {k : (Nat → Int64) → Prop}  (C0 : CX p s m args meth c b_J_fillL 5 none R_J "fill" D ca tp A) :
    ∀ (n : Nat) (x3 : Int32) (B_nextTable : Nat → Int64) {H : Heap} {locs : List Loc} {ls : Array Slot}, p_J_fillL_L6 x1 x4 k n x3 B_nextTable → WH D A s (WB ad ca T_length T_bytes C_size C_given C_empty C_drafted C_draftedGiven C_block C_left C_right C_pivot C_positive C_negative C_live C_needed R_kind R_place R_at R_token R_tokenPlace R_number R_state R_block R_positive R_negative R_left R_right R_pivot L_of F_cut F_labelledA F_labelledB F_row A_root A_words A_known G_size G_variable G_low G_high G_numberOf G_nodeOf G_sides G_waiting B_table B_nextTable) H locs → lv_has ls 5 [(0, .ref (ad 29)), (1, .long x1), (3, .int x3), (4, .int x4)] →
      W p l e rm_J_fillL s m args below meth c H locs 0 0 (QV D A below args s (fun (u : (Nat → Int64)) => k u) (fun (u : (Nat → Int64)) => WB ad ca T_length T_bytes C_size C_given C_empty C_drafted C_draftedGiven C_block C_left C_right C_pivot C_positive C_negative C_live C_needed R_kind R_place R_at R_token R_tokenPlace R_number R_state R_block R_positive R_negative R_left R_right R_pivot L_of F_cut F_labelledA F_labelledB F_row A_root A_words A_known G_size G_variable G_low G_high G_numberOf G_nodeOf G_sides G_waiting B_table u) 0 0) (F0 m 6 ls []) := by
  have hx := C0.1
  have hb := C0.2.1
  intro n
  induction n with
  | zero =>
    intro x3 B_nextTable H locs ls h
    exact False.elim h
  | succ n ih =>
    intro x3 B_nextTable H locs ls h hw hl
    unfold p_J_fillL_L6 at h
    refine lv_iload_n hx hb d_J_fillL_6 rfl (lv_at hl 2 rfl) ?_
    refine lv_iload hx hb d_J_fillL_7 (lv_at hl 3 rfl) ?_
    refine lv_icmp_ge (tgt := 22) hx hb d_J_fillL_9 (by decide) (fun c_1 => ?_) (fun c_1 => ?_)
    · have h := h.1 c_1
      exact x_vret C0 hw B_nextTable h rfl d_J_fillL_22
    · have h := h.2 c_1
      refine lv_aload_n hx hb d_J_fillL_12 rfl (lv_at hl 0 rfl) ?_
      refine lv_iload_n hx hb d_J_fillL_13 rfl (lv_at hl 2 rfl) ?_
      refine lv_lload_n hx hb d_J_fillL_14 rfl (lv_at hl 1 rfl) ?_
      obtain ⟨hi_2, h⟩ := h
      refine x_last C0 hw 29 rfl hi_2 (ws' := WB ad ca T_length T_bytes C_size C_given C_empty C_drafted C_draftedGiven C_block C_left C_right C_pivot C_positive C_negative C_live C_needed R_kind R_place R_at R_token R_tokenPlace R_number R_state R_block R_positive R_negative R_left R_right R_pivot L_of F_cut F_labelledA F_labelledB F_row A_root A_words A_known G_size G_variable G_low G_high G_numberOf G_nodeOf G_sides G_waiting B_table (vp_updL B_nextTable x3.toNatClampNeg x1)) rfl d_J_fillL_15 (fun H locs hw => ?_)
      refine lv_iinc (v := (x3 + 1)) (lv' := [(3, .int (x3 + 1)), (0, .ref (ad 29)), (1, .long x1), (4, .int x4)]) hx hb d_J_fillL_16 hl (k := 2) rfl rfl (by decide) rfl (fun ls hl => ?_)
      refine lv_goto (tgt := 6) hx hb d_J_fillL_19 (by decide) ?_
      exact ih _ _ h hw (lv_sub hl [1, 2, 0, 3] rfl)
set_option maxHeartbeats 4000000 in
set_option maxRecDepth 100000 in
theorem c_J_fillL {l : Launch} {D : va_G} {ca : Nat → ClassId} {tp : Nat} {ad : Nat → Nat} {T_length : Int32} {T_bytes : Nat → Int32} {C_size : Int32} {C_given : Int32} {C_empty : Int32} {C_drafted : Int32} {C_draftedGiven : Int32} {C_block : Nat → Int32} {C_left : Nat → Int32} {C_right : Nat → Int32} {C_pivot : Nat → Int32} {C_positive : Nat → Int32} {C_negative : Nat → Int32} {C_live : Nat → Int32} {C_needed : Nat → Int32} {R_kind : Int32} {R_place : Int32} {R_at : Int32} {R_token : Int32} {R_tokenPlace : Int32} {R_number : Int32} {R_state : Int32} {R_block : Int32} {R_positive : Int32} {R_negative : Int32} {R_left : Int32} {R_right : Int32} {R_pivot : Int32} {L_of : Nat → Int32} {F_cut : Int32} {F_labelledA : Int32} {F_labelledB : Int32} {F_row : Nat → Int64} {A_root : Int32} {A_words : Nat → Int64} {A_known : Nat → Int32} {G_size : Int32} {G_variable : Nat → Int32} {G_low : Nat → Int32} {G_high : Nat → Int32} {G_numberOf : Nat → Int32} {G_nodeOf : Nat → Int32} {G_sides : Nat → Int32} {G_waiting : Nat → Int32} {B_table : Nat → Int64} {B_nextTable : Nat → Int64} {x1 : Int64} {k : (Nat → Int64) → Prop} (h : p_J_fillL B_nextTable x1 k) :
    MTv l y_J_fillL b_J_fillL 5 none rm_J_fillL D ca tp [.ref (ad 29), .long x1] (WB ad ca T_length T_bytes C_size C_given C_empty C_drafted C_draftedGiven C_block C_left C_right C_pivot C_positive C_negative C_live C_needed R_kind R_place R_at R_token R_tokenPlace R_number R_state R_block R_positive R_negative R_left R_right R_pivot L_of F_cut F_labelledA F_labelledB F_row A_root A_words A_known G_size G_variable G_low G_high G_numberOf G_nodeOf G_sides G_waiting B_table B_nextTable)
      (fun (u : (Nat → Int64)) => k u)
      (fun (u : (Nat → Int64)) => WB ad ca T_length T_bytes C_size C_given C_empty C_drafted C_draftedGiven C_block C_left C_right C_pivot C_positive C_negative C_live C_needed R_kind R_place R_at R_token R_tokenPlace R_number R_state R_block R_positive R_negative R_left R_right R_pivot L_of F_cut F_labelledA F_labelledB F_row A_root A_words A_known G_size G_variable G_low G_high G_numberOf G_nodeOf G_sides G_waiting B_table u) 0 0 := by
  refine x_entryv (own := R_J) (nm := "fill") (by decide) rfl rfl (Nat.le_of_ble_eq_true rfl) (fun p e s m below meth c A ls C0 hw hl => ?_)
  have hx := C0.1
  have hb := C0.2.1
  have hl : lv_has ls 5 [(0, .ref (ad 29)), (1, .long x1)] := hl
  unfold p_J_fillL at h
  refine lv_iconst (v := 0) hx hb d_J_fillL_0 (by decide) ?_
  refine lv_istore_n (lv' := [(3, .int (0 : Int32)), (0, .ref (ad 29)), (1, .long x1)]) hx hb d_J_fillL_1 rfl hl (by decide) rfl (fun ls hl => ?_)
  refine lv_aload_n hx hb d_J_fillL_2 rfl (lv_at hl 1 rfl) ?_
  refine x_alen C0 hw 29 1 rfl rfl (v := 16) rfl d_J_fillL_3 ?_
  refine lv_istore (lv' := [(4, .int (16 : Int32)), (3, .int (0 : Int32)), (0, .ref (ad 29)), (1, .long x1)]) hx hb d_J_fillL_4 hl (by decide) rfl (fun ls hl => ?_)
  obtain ⟨j_3, h⟩ := h
  refine b_J_fillL_L6 C0 _ _ _ h hw (lv_sub hl [2, 3, 1, 0] rfl)
theorem g_K_bitCount : GY y_K_bitCount b_K_bitCount 2 (some .int) 1 := ⟨wm_654, wm_64, by decide +kernel, by decide +kernel, by decide +kernel⟩
def p_K_bitCount (x0 : Int64) (k : Int32 → Prop) : Prop :=
  (∀ v0_1 : Int64, v0_1 = (x0 - ((J_lushr x0 (1 : Int32)) &&& (6148914691236517205 : Int64))) → (∀ v0_2 : Int64, v0_2 = ((v0_1 &&& (3689348814741910323 : Int64)) + ((J_lushr v0_1 (2 : Int32)) &&& (3689348814741910323 : Int64))) → (∀ v0_3 : Int64, v0_3 = ((v0_2 + (J_lushr v0_2 (4 : Int32))) &&& (1085102592571150095 : Int64)) → (∀ v0_4 : Int64, v0_4 = ((v0_3 + (J_lushr v0_3 (8 : Int32))) + (J_lushr (v0_3 + (J_lushr v0_3 (8 : Int32))) (16 : Int32))) → (k (((v0_4 + (J_lushr v0_4 (32 : Int32))).toInt32) &&& (127 : Int32)))))))
abbrev rm_K_bitCount : Room := { frames := 0, cells := 0, slots := 0, locals := 0 }
set_option maxHeartbeats 4000000 in
set_option maxRecDepth 100000 in
theorem c_K_bitCount {l : Launch} {D : va_G} {ca : Nat → ClassId} {tp : Nat} {ad : Nat → Nat} {T_length : Int32} {T_bytes : Nat → Int32} {C_size : Int32} {C_given : Int32} {C_empty : Int32} {C_drafted : Int32} {C_draftedGiven : Int32} {C_block : Nat → Int32} {C_left : Nat → Int32} {C_right : Nat → Int32} {C_pivot : Nat → Int32} {C_positive : Nat → Int32} {C_negative : Nat → Int32} {C_live : Nat → Int32} {C_needed : Nat → Int32} {R_kind : Int32} {R_place : Int32} {R_at : Int32} {R_token : Int32} {R_tokenPlace : Int32} {R_number : Int32} {R_state : Int32} {R_block : Int32} {R_positive : Int32} {R_negative : Int32} {R_left : Int32} {R_right : Int32} {R_pivot : Int32} {L_of : Nat → Int32} {F_cut : Int32} {F_labelledA : Int32} {F_labelledB : Int32} {F_row : Nat → Int64} {A_root : Int32} {A_words : Nat → Int64} {A_known : Nat → Int32} {G_size : Int32} {G_variable : Nat → Int32} {G_low : Nat → Int32} {G_high : Nat → Int32} {G_numberOf : Nat → Int32} {G_nodeOf : Nat → Int32} {G_sides : Nat → Int32} {G_waiting : Nat → Int32} {B_table : Nat → Int64} {B_nextTable : Nat → Int64} {x0 : Int64} {k : Int32 → Prop} (h : p_K_bitCount x0 k) :
    MTi l y_K_bitCount b_K_bitCount 2 (some .int) rm_K_bitCount D ca tp [.long x0] (WB ad ca T_length T_bytes C_size C_given C_empty C_drafted C_draftedGiven C_block C_left C_right C_pivot C_positive C_negative C_live C_needed R_kind R_place R_at R_token R_tokenPlace R_number R_state R_block R_positive R_negative R_left R_right R_pivot L_of F_cut F_labelledA F_labelledB F_row A_root A_words A_known G_size G_variable G_low G_high G_numberOf G_nodeOf G_sides G_waiting B_table B_nextTable)
      (fun r (_ : Unit) => k r)
      (fun (_ : Unit) => WB ad ca T_length T_bytes C_size C_given C_empty C_drafted C_draftedGiven C_block C_left C_right C_pivot C_positive C_negative C_live C_needed R_kind R_place R_at R_token R_tokenPlace R_number R_state R_block R_positive R_negative R_left R_right R_pivot L_of F_cut F_labelledA F_labelledB F_row A_root A_words A_known G_size G_variable G_low G_high G_numberOf G_nodeOf G_sides G_waiting B_table B_nextTable) 0 0 := by
  refine x_entryi (own := R_K) (nm := "bitCount") (by decide) rfl rfl (Nat.le_of_ble_eq_true rfl) (fun p e s m below meth c A ls C0 hw hl => ?_)
  have hx := C0.1
  have hb := C0.2.1
  have hl : lv_has ls 2 [(0, .long x0)] := hl
  unfold p_K_bitCount at h
  refine lv_lload_n hx hb d_K_bitCount_0 rfl (lv_at hl 0 rfl) ?_
  refine lv_lload_n hx hb d_K_bitCount_1 rfl (lv_at hl 0 rfl) ?_
  refine lv_iconst (v := 1) hx hb d_K_bitCount_2 (by decide) ?_
  refine lv_lushr (v := (J_lushr x0 (1 : Int32))) hx hb d_K_bitCount_3 rfl ?_
  refine x_ldc2 C0 wm_655 d_K_bitCount_4 ?_
  refine lv_land hx hb d_K_bitCount_7 ?_
  refine lv_lsub hx hb d_K_bitCount_8 ?_
  refine lv_topl (fun v0_1 e_v0_1 => ?_)
  have h := h v0_1 e_v0_1
  refine lv_lstore_n (lv' := [(0, .long v0_1)]) hx hb d_K_bitCount_9 rfl hl (by decide) rfl (fun ls hl => ?_)
  refine lv_lload_n hx hb d_K_bitCount_10 rfl (lv_at hl 0 rfl) ?_
  refine x_ldc2 C0 wm_656 d_K_bitCount_11 ?_
  refine lv_land hx hb d_K_bitCount_14 ?_
  refine lv_lload_n hx hb d_K_bitCount_15 rfl (lv_at hl 0 rfl) ?_
  refine lv_iconst (v := 2) hx hb d_K_bitCount_16 (by decide) ?_
  refine lv_lushr (v := (J_lushr v0_1 (2 : Int32))) hx hb d_K_bitCount_17 rfl ?_
  refine x_ldc2 C0 wm_656 d_K_bitCount_18 ?_
  refine lv_land hx hb d_K_bitCount_21 ?_
  refine lv_ladd hx hb d_K_bitCount_22 ?_
  refine lv_topl (fun v0_2 e_v0_2 => ?_)
  have h := h v0_2 e_v0_2
  refine lv_lstore_n (lv' := [(0, .long v0_2)]) hx hb d_K_bitCount_23 rfl hl (by decide) rfl (fun ls hl => ?_)
  refine lv_lload_n hx hb d_K_bitCount_24 rfl (lv_at hl 0 rfl) ?_
  refine lv_lload_n hx hb d_K_bitCount_25 rfl (lv_at hl 0 rfl) ?_
  refine lv_iconst (v := 4) hx hb d_K_bitCount_26 (by decide) ?_
  refine lv_lushr (v := (J_lushr v0_2 (4 : Int32))) hx hb d_K_bitCount_27 rfl ?_
  refine lv_ladd hx hb d_K_bitCount_28 ?_
  refine x_ldc2 C0 wm_657 d_K_bitCount_29 ?_
  refine lv_land hx hb d_K_bitCount_32 ?_
  refine lv_topl (fun v0_3 e_v0_3 => ?_)
  have h := h v0_3 e_v0_3
  refine lv_lstore_n (lv' := [(0, .long v0_3)]) hx hb d_K_bitCount_33 rfl hl (by decide) rfl (fun ls hl => ?_)
  refine lv_lload_n hx hb d_K_bitCount_34 rfl (lv_at hl 0 rfl) ?_
  refine lv_lload_n hx hb d_K_bitCount_35 rfl (lv_at hl 0 rfl) ?_
  refine lv_bipush (v := 8) hx hb d_K_bitCount_36 (by decide) ?_
  refine lv_lushr (v := (J_lushr v0_3 (8 : Int32))) hx hb d_K_bitCount_38 rfl ?_
  refine lv_ladd hx hb d_K_bitCount_39 ?_
  refine lv_lstore_n (lv' := [(0, .long (v0_3 + (J_lushr v0_3 (8 : Int32))))]) hx hb d_K_bitCount_40 rfl hl (by decide) rfl (fun ls hl => ?_)
  refine lv_lload_n hx hb d_K_bitCount_41 rfl (lv_at hl 0 rfl) ?_
  refine lv_lload_n hx hb d_K_bitCount_42 rfl (lv_at hl 0 rfl) ?_
  refine lv_bipush (v := 16) hx hb d_K_bitCount_43 (by decide) ?_
  refine lv_lushr (v := (J_lushr (v0_3 + (J_lushr v0_3 (8 : Int32))) (16 : Int32))) hx hb d_K_bitCount_45 rfl ?_
  refine lv_ladd hx hb d_K_bitCount_46 ?_
  refine lv_topl (fun v0_4 e_v0_4 => ?_)
  have h := h v0_4 e_v0_4
  refine lv_lstore_n (lv' := [(0, .long v0_4)]) hx hb d_K_bitCount_47 rfl hl (by decide) rfl (fun ls hl => ?_)
  refine lv_lload_n hx hb d_K_bitCount_48 rfl (lv_at hl 0 rfl) ?_
  refine lv_lload_n hx hb d_K_bitCount_49 rfl (lv_at hl 0 rfl) ?_
  refine lv_bipush (v := 32) hx hb d_K_bitCount_50 (by decide) ?_
  refine lv_lushr (v := (J_lushr v0_4 (32 : Int32))) hx hb d_K_bitCount_52 rfl ?_
  refine lv_ladd hx hb d_K_bitCount_53 ?_
  refine lv_lstore_n (lv' := [(0, .long (v0_4 + (J_lushr v0_4 (32 : Int32))))]) hx hb d_K_bitCount_54 rfl hl (by decide) rfl (fun ls hl => ?_)
  refine lv_lload_n hx hb d_K_bitCount_55 rfl (lv_at hl 0 rfl) ?_
  refine lv_l2i (v := ((v0_4 + (J_lushr v0_4 (32 : Int32))).toInt32)) hx hb d_K_bitCount_56 rfl ?_
  refine lv_bipush (v := 127) hx hb d_K_bitCount_57 (by decide) ?_
  refine lv_iand hx hb d_K_bitCount_59 ?_
  exact x_iret C0 hw () h rfl d_K_bitCount_60
theorem g_L_reset : GY y_L_reset b_L_reset 1 none 0 := ⟨wm_511, wm_57, by decide +kernel, by decide +kernel, by decide +kernel⟩
def p_L_reset (L_of : Nat → Int32) (k : (Nat → Int32) → Prop) : Prop :=
  (p_J_fillI L_of (2 : Int32) (fun (L_of_1 : Nat → Int32) => (k L_of_1)))
abbrev rm_L_reset : Room := { frames := 1, cells := 0, slots := 0, locals := 23 }
set_option maxHeartbeats 4000000 in
set_option maxRecDepth 100000 in
theorem c_L_reset {l : Launch} {D : va_G} {ca : Nat → ClassId} {tp : Nat} {ad : Nat → Nat} {T_length : Int32} {T_bytes : Nat → Int32} {C_size : Int32} {C_given : Int32} {C_empty : Int32} {C_drafted : Int32} {C_draftedGiven : Int32} {C_block : Nat → Int32} {C_left : Nat → Int32} {C_right : Nat → Int32} {C_pivot : Nat → Int32} {C_positive : Nat → Int32} {C_negative : Nat → Int32} {C_live : Nat → Int32} {C_needed : Nat → Int32} {R_kind : Int32} {R_place : Int32} {R_at : Int32} {R_token : Int32} {R_tokenPlace : Int32} {R_number : Int32} {R_state : Int32} {R_block : Int32} {R_positive : Int32} {R_negative : Int32} {R_left : Int32} {R_right : Int32} {R_pivot : Int32} {L_of : Nat → Int32} {F_cut : Int32} {F_labelledA : Int32} {F_labelledB : Int32} {F_row : Nat → Int64} {A_root : Int32} {A_words : Nat → Int64} {A_known : Nat → Int32} {G_size : Int32} {G_variable : Nat → Int32} {G_low : Nat → Int32} {G_high : Nat → Int32} {G_numberOf : Nat → Int32} {G_nodeOf : Nat → Int32} {G_sides : Nat → Int32} {G_waiting : Nat → Int32} {B_table : Nat → Int64} {B_nextTable : Nat → Int64}  {k : (Nat → Int32) → Prop} (h : p_L_reset L_of k) :
    MTv l y_L_reset b_L_reset 1 none rm_L_reset D ca tp [.ref (ad 13)] (WB ad ca T_length T_bytes C_size C_given C_empty C_drafted C_draftedGiven C_block C_left C_right C_pivot C_positive C_negative C_live C_needed R_kind R_place R_at R_token R_tokenPlace R_number R_state R_block R_positive R_negative R_left R_right R_pivot L_of F_cut F_labelledA F_labelledB F_row A_root A_words A_known G_size G_variable G_low G_high G_numberOf G_nodeOf G_sides G_waiting B_table B_nextTable)
      (fun (u : (Nat → Int32)) => k u)
      (fun (u : (Nat → Int32)) => WB ad ca T_length T_bytes C_size C_given C_empty C_drafted C_draftedGiven C_block C_left C_right C_pivot C_positive C_negative C_live C_needed R_kind R_place R_at R_token R_tokenPlace R_number R_state R_block R_positive R_negative R_left R_right R_pivot u F_cut F_labelledA F_labelledB F_row A_root A_words A_known G_size G_variable G_low G_high G_numberOf G_nodeOf G_sides G_waiting B_table B_nextTable) 0 0 := by
  refine x_entryv (own := R_L) (nm := "reset") (by decide) rfl rfl (Nat.le_of_ble_eq_true rfl) (fun p e s m below meth c A ls C0 hw hl => ?_)
  have hx := C0.1
  have hb := C0.2.1
  have hl : lv_has ls 1 [(0, .ref (ad 13))] := hl
  unfold p_L_reset at h
  refine lv_aload_n hx hb d_L_reset_0 rfl (lv_at hl 0 rfl) ?_
  refine x_get C0 hw 13 rfl rfl i_L 0 (by decide) wm_220 rfl rfl d_L_reset_1 ?_
  refine lv_iconst (v := 2) hx hb d_L_reset_4 (by decide) ?_
  refine x_callSv C0 hw hl (c_J_fillI h) g_J_fillI wm_217 wm_218 (As := [.ref (ad 14), .int (2 : Int32)]) (rest := []) rfl rfl (Nat.le_of_ble_eq_true rfl) ⟨rfl, rfl⟩ ⟨Nat.le_of_ble_eq_true rfl, Nat.le_of_ble_eq_true rfl⟩ ⟨Nat.le_of_ble_eq_true rfl, Nat.le_of_ble_eq_true rfl⟩ d_L_reset_5 (fun u H locs h hw => ?_)
  obtain ⟨L_of_1, rfl⟩ : ∃ z, z = u := ⟨_, rfl⟩
  exact x_vret C0 hw L_of_1 h rfl d_L_reset_8
theorem g_L_exchange : GY y_L_exchange b_L_exchange 4 (some .int) 2 := ⟨wm_549, wm_57, by decide +kernel, by decide +kernel, by decide +kernel⟩
def p_L_exchange (L_of : Nat → Int32) (x1 : Int32) (x2 : Int32) (k : Int32 → (Nat → Int32) → Prop) : Prop :=
  (vp_in x1 11 ∧ (k (L_of x1.toNatClampNeg) (upd L_of x1.toNatClampNeg x2)))
abbrev rm_L_exchange : Room := { frames := 0, cells := 0, slots := 0, locals := 0 }
set_option maxHeartbeats 4000000 in
set_option maxRecDepth 100000 in
theorem c_L_exchange {l : Launch} {D : va_G} {ca : Nat → ClassId} {tp : Nat} {ad : Nat → Nat} {T_length : Int32} {T_bytes : Nat → Int32} {C_size : Int32} {C_given : Int32} {C_empty : Int32} {C_drafted : Int32} {C_draftedGiven : Int32} {C_block : Nat → Int32} {C_left : Nat → Int32} {C_right : Nat → Int32} {C_pivot : Nat → Int32} {C_positive : Nat → Int32} {C_negative : Nat → Int32} {C_live : Nat → Int32} {C_needed : Nat → Int32} {R_kind : Int32} {R_place : Int32} {R_at : Int32} {R_token : Int32} {R_tokenPlace : Int32} {R_number : Int32} {R_state : Int32} {R_block : Int32} {R_positive : Int32} {R_negative : Int32} {R_left : Int32} {R_right : Int32} {R_pivot : Int32} {L_of : Nat → Int32} {F_cut : Int32} {F_labelledA : Int32} {F_labelledB : Int32} {F_row : Nat → Int64} {A_root : Int32} {A_words : Nat → Int64} {A_known : Nat → Int32} {G_size : Int32} {G_variable : Nat → Int32} {G_low : Nat → Int32} {G_high : Nat → Int32} {G_numberOf : Nat → Int32} {G_nodeOf : Nat → Int32} {G_sides : Nat → Int32} {G_waiting : Nat → Int32} {B_table : Nat → Int64} {B_nextTable : Nat → Int64} {x1 : Int32} {x2 : Int32} {k : Int32 → (Nat → Int32) → Prop} (h : p_L_exchange L_of x1 x2 k) :
    MTi l y_L_exchange b_L_exchange 4 (some .int) rm_L_exchange D ca tp [.ref (ad 13), .int x1, .int x2] (WB ad ca T_length T_bytes C_size C_given C_empty C_drafted C_draftedGiven C_block C_left C_right C_pivot C_positive C_negative C_live C_needed R_kind R_place R_at R_token R_tokenPlace R_number R_state R_block R_positive R_negative R_left R_right R_pivot L_of F_cut F_labelledA F_labelledB F_row A_root A_words A_known G_size G_variable G_low G_high G_numberOf G_nodeOf G_sides G_waiting B_table B_nextTable)
      (fun r (u : (Nat → Int32)) => k r u)
      (fun (u : (Nat → Int32)) => WB ad ca T_length T_bytes C_size C_given C_empty C_drafted C_draftedGiven C_block C_left C_right C_pivot C_positive C_negative C_live C_needed R_kind R_place R_at R_token R_tokenPlace R_number R_state R_block R_positive R_negative R_left R_right R_pivot u F_cut F_labelledA F_labelledB F_row A_root A_words A_known G_size G_variable G_low G_high G_numberOf G_nodeOf G_sides G_waiting B_table B_nextTable) 0 0 := by
  refine x_entryi (own := R_L) (nm := "exchange") (by decide) rfl rfl (Nat.le_of_ble_eq_true rfl) (fun p e s m below meth c A ls C0 hw hl => ?_)
  have hx := C0.1
  have hb := C0.2.1
  have hl : lv_has ls 4 [(0, .ref (ad 13)), (1, .int x1), (2, .int x2)] := hl
  unfold p_L_exchange at h
  refine lv_aload_n hx hb d_L_exchange_0 rfl (lv_at hl 0 rfl) ?_
  refine x_get C0 hw 13 rfl rfl i_L 0 (by decide) wm_220 rfl rfl d_L_exchange_1 ?_
  refine lv_iload_n hx hb d_L_exchange_4 rfl (lv_at hl 1 rfl) ?_
  obtain ⟨hi_1, h⟩ := h
  refine x_iald C0 hw 14 rfl hi_1 d_L_exchange_5 ?_
  refine lv_istore_n (lv' := [(3, .int (L_of x1.toNatClampNeg)), (0, .ref (ad 13)), (1, .int x1), (2, .int x2)]) hx hb d_L_exchange_6 rfl hl (by decide) rfl (fun ls hl => ?_)
  refine lv_aload_n hx hb d_L_exchange_7 rfl (lv_at hl 1 rfl) ?_
  refine x_get C0 hw 13 rfl rfl i_L 0 (by decide) wm_220 rfl rfl d_L_exchange_8 ?_
  refine lv_iload_n hx hb d_L_exchange_11 rfl (lv_at hl 2 rfl) ?_
  refine lv_iload_n hx hb d_L_exchange_12 rfl (lv_at hl 3 rfl) ?_
  refine x_iast C0 hw 14 rfl hi_1 (ws' := WB ad ca T_length T_bytes C_size C_given C_empty C_drafted C_draftedGiven C_block C_left C_right C_pivot C_positive C_negative C_live C_needed R_kind R_place R_at R_token R_tokenPlace R_number R_state R_block R_positive R_negative R_left R_right R_pivot (upd L_of x1.toNatClampNeg x2) F_cut F_labelledA F_labelledB F_row A_root A_words A_known G_size G_variable G_low G_high G_numberOf G_nodeOf G_sides G_waiting B_table B_nextTable) rfl d_L_exchange_13 (fun H locs hw => ?_)
  refine lv_iload_n hx hb d_L_exchange_14 rfl (lv_at hl 0 rfl) ?_
  exact x_iret C0 hw (upd L_of x1.toNatClampNeg x2) h rfl d_L_exchange_15
theorem g_L_having : GY y_L_having b_L_having 4 (some .int) 1 := ⟨wm_584, wm_57, by decide +kernel, by decide +kernel, by decide +kernel⟩
def p_L_having_L4 (L_of : Nat → Int32) (x1 : Int32) (k : Int32 → Prop) : Nat → Int32 → Int32 → Prop
  | 0, _, _ => False
  | n + 1, x2, x3 =>
    (((10 : Int32) < x3 → (k x2)) ∧ (¬ (10 : Int32) < x3 → (vp_in x3 11 ∧ ((¬ (L_of x3.toNatClampNeg) = x1 → (p_L_having_L4 L_of x1 k n x2 (x3 + 1))) ∧ ((L_of x3.toNatClampNeg) = x1 → (p_B_bitOf x3 (fun (r_4 : Int32) => (p_L_having_L4 L_of x1 k n (x2 ||| r_4) (x3 + 1)))))))))
def p_L_having (L_of : Nat → Int32) (x1 : Int32) (k : Int32 → Prop) : Prop :=
  (∃ j_5, p_L_having_L4 L_of x1 k j_5 (0 : Int32) (1 : Int32))
abbrev rm_L_having : Room := { frames := 1, cells := 0, slots := 0, locals := 20 }
set_option maxHeartbeats 4000000 in
set_option maxRecDepth 100000 in
theorem b_L_having_L4 {p : Program} {l : Launch} {e : Env} {s : State} {m : MethodId} {args : Array Value} {below : List Frame} {meth : Method} {c : Code} {D : va_G} {ca : Nat → ClassId} {tp : Nat} {A : Nat → Prop} {ad : Nat → Nat} {T_length : Int32} {T_bytes : Nat → Int32} {C_size : Int32} {C_given : Int32} {C_empty : Int32} {C_drafted : Int32} {C_draftedGiven : Int32} {C_block : Nat → Int32} {C_left : Nat → Int32} {C_right : Nat → Int32} {C_pivot : Nat → Int32} {C_positive : Nat → Int32} {C_negative : Nat → Int32} {C_live : Nat → Int32} {C_needed : Nat → Int32} {R_kind : Int32} {R_place : Int32} {R_at : Int32} {R_token : Int32} {R_tokenPlace : Int32} {R_number : Int32} {R_state : Int32} {R_block : Int32} {R_positive : Int32} {R_negative : Int32} {R_left : Int32} {R_right : Int32} {R_pivot : Int32} {L_of : Nat → Int32} {F_cut : Int32} {F_labelledA : Int32} {F_labelledB : Int32} {F_row : Nat → Int64} {A_root : Int32} {A_words : Nat → Int64} {A_known : Nat → Int32} {G_size : Int32} {G_variable : Nat → Int32} {G_low : Nat → Int32} {G_high : Nat → Int32} {G_numberOf : Nat → Int32} {G_nodeOf : Nat → Int32} {G_sides : Nat → Int32} {G_waiting : Nat → Int32} {B_table : Nat → Int64} {B_nextTable : Nat → Int64} {x1 : Int32} {k : Int32 → Prop}  (C0 : CX p s m args meth c b_L_having 4 (some .int) R_L "having" D ca tp A) :
    ∀ (n : Nat) (x2 : Int32) (x3 : Int32) {H : Heap} {locs : List Loc} {ls : Array Slot}, p_L_having_L4 L_of x1 k n x2 x3 → WH D A s (WB ad ca T_length T_bytes C_size C_given C_empty C_drafted C_draftedGiven C_block C_left C_right C_pivot C_positive C_negative C_live C_needed R_kind R_place R_at R_token R_tokenPlace R_number R_state R_block R_positive R_negative R_left R_right R_pivot L_of F_cut F_labelledA F_labelledB F_row A_root A_words A_known G_size G_variable G_low G_high G_numberOf G_nodeOf G_sides G_waiting B_table B_nextTable) H locs → lv_has ls 4 [(0, .ref (ad 13)), (1, .int x1), (2, .int x2), (3, .int x3)] →
      W p l e rm_L_having s m args below meth c H locs 0 0 (QI D A below args s (fun r (_ : Unit) => k r) (fun (_ : Unit) => WB ad ca T_length T_bytes C_size C_given C_empty C_drafted C_draftedGiven C_block C_left C_right C_pivot C_positive C_negative C_live C_needed R_kind R_place R_at R_token R_tokenPlace R_number R_state R_block R_positive R_negative R_left R_right R_pivot L_of F_cut F_labelledA F_labelledB F_row A_root A_words A_known G_size G_variable G_low G_high G_numberOf G_nodeOf G_sides G_waiting B_table B_nextTable) 0 0) (F0 m 4 ls []) := by
  have hx := C0.1
  have hb := C0.2.1
  intro n
  induction n with
  | zero =>
    intro x2 x3 H locs ls h
    exact False.elim h
  | succ n ih =>
    intro x2 x3 H locs ls h hw hl
    unfold p_L_having_L4 at h
    refine lv_iload_n hx hb d_L_having_4 rfl (lv_at hl 3 rfl) ?_
    refine lv_bipush (v := 10) hx hb d_L_having_5 (by decide) ?_
    refine lv_icmp_gt (tgt := 33) hx hb d_L_having_7 (by decide) (fun c_1 => ?_) (fun c_1 => ?_)
    · have h := h.1 c_1
      refine lv_iload_n hx hb d_L_having_33 rfl (lv_at hl 2 rfl) ?_
      exact x_iret C0 hw () h rfl d_L_having_34
    · have h := h.2 c_1
      refine lv_aload_n hx hb d_L_having_10 rfl (lv_at hl 0 rfl) ?_
      refine x_get C0 hw 13 rfl rfl i_L 0 (by decide) wm_220 rfl rfl d_L_having_11 ?_
      refine lv_iload_n hx hb d_L_having_14 rfl (lv_at hl 3 rfl) ?_
      obtain ⟨hi_2, h⟩ := h
      refine x_iald C0 hw 14 rfl hi_2 d_L_having_15 ?_
      refine lv_iload_n hx hb d_L_having_16 rfl (lv_at hl 1 rfl) ?_
      refine lv_icmp_ne (tgt := 27) hx hb d_L_having_17 (by decide) (fun c_3 => ?_) (fun c_3 => ?_)
      · have h := h.1 c_3
        refine lv_iinc (v := (x3 + 1)) (lv' := [(3, .int (x3 + 1)), (0, .ref (ad 13)), (1, .int x1), (2, .int x2)]) hx hb d_L_having_27 hl (k := 3) rfl rfl (by decide) rfl (fun ls hl => ?_)
        refine lv_goto (tgt := 4) hx hb d_L_having_30 (by decide) ?_
        exact ih _ _ h hw (lv_sub hl [1, 2, 3, 0] rfl)
      · have h := h.2 c_3
        refine lv_iload_n hx hb d_L_having_20 rfl (lv_at hl 2 rfl) ?_
        refine lv_iload_n hx hb d_L_having_21 rfl (lv_at hl 3 rfl) ?_
        refine x_callSNi C0 hw hl (c_B_bitOf h) g_B_bitOf wm_585 wm_456 (As := [.int x3]) (rest := [.int x2]) rfl rfl (Nat.le_of_ble_eq_true rfl) ⟨rfl, rfl⟩ ⟨Nat.le_of_ble_eq_true rfl, Nat.le_of_ble_eq_true rfl⟩ ⟨Nat.le_of_ble_eq_true rfl, Nat.le_of_ble_eq_true rfl⟩ d_L_having_22 (fun r_4 u H locs h hw => ?_)
        refine lv_ior hx hb d_L_having_25 ?_
        refine lv_istore_n (lv' := [(2, .int (x2 ||| r_4)), (0, .ref (ad 13)), (1, .int x1), (3, .int x3)]) hx hb d_L_having_26 rfl hl (by decide) rfl (fun ls hl => ?_)
        refine lv_iinc (v := (x3 + 1)) (lv' := [(3, .int (x3 + 1)), (2, .int (x2 ||| r_4)), (0, .ref (ad 13)), (1, .int x1)]) hx hb d_L_having_27 hl (k := 3) rfl rfl (by decide) rfl (fun ls hl => ?_)
        refine lv_goto (tgt := 4) hx hb d_L_having_30 (by decide) ?_
        exact ih _ _ h hw (lv_sub hl [2, 3, 1, 0] rfl)
set_option maxHeartbeats 4000000 in
set_option maxRecDepth 100000 in
theorem c_L_having {l : Launch} {D : va_G} {ca : Nat → ClassId} {tp : Nat} {ad : Nat → Nat} {T_length : Int32} {T_bytes : Nat → Int32} {C_size : Int32} {C_given : Int32} {C_empty : Int32} {C_drafted : Int32} {C_draftedGiven : Int32} {C_block : Nat → Int32} {C_left : Nat → Int32} {C_right : Nat → Int32} {C_pivot : Nat → Int32} {C_positive : Nat → Int32} {C_negative : Nat → Int32} {C_live : Nat → Int32} {C_needed : Nat → Int32} {R_kind : Int32} {R_place : Int32} {R_at : Int32} {R_token : Int32} {R_tokenPlace : Int32} {R_number : Int32} {R_state : Int32} {R_block : Int32} {R_positive : Int32} {R_negative : Int32} {R_left : Int32} {R_right : Int32} {R_pivot : Int32} {L_of : Nat → Int32} {F_cut : Int32} {F_labelledA : Int32} {F_labelledB : Int32} {F_row : Nat → Int64} {A_root : Int32} {A_words : Nat → Int64} {A_known : Nat → Int32} {G_size : Int32} {G_variable : Nat → Int32} {G_low : Nat → Int32} {G_high : Nat → Int32} {G_numberOf : Nat → Int32} {G_nodeOf : Nat → Int32} {G_sides : Nat → Int32} {G_waiting : Nat → Int32} {B_table : Nat → Int64} {B_nextTable : Nat → Int64} {x1 : Int32} {k : Int32 → Prop} (h : p_L_having L_of x1 k) :
    MTi l y_L_having b_L_having 4 (some .int) rm_L_having D ca tp [.ref (ad 13), .int x1] (WB ad ca T_length T_bytes C_size C_given C_empty C_drafted C_draftedGiven C_block C_left C_right C_pivot C_positive C_negative C_live C_needed R_kind R_place R_at R_token R_tokenPlace R_number R_state R_block R_positive R_negative R_left R_right R_pivot L_of F_cut F_labelledA F_labelledB F_row A_root A_words A_known G_size G_variable G_low G_high G_numberOf G_nodeOf G_sides G_waiting B_table B_nextTable)
      (fun r (_ : Unit) => k r)
      (fun (_ : Unit) => WB ad ca T_length T_bytes C_size C_given C_empty C_drafted C_draftedGiven C_block C_left C_right C_pivot C_positive C_negative C_live C_needed R_kind R_place R_at R_token R_tokenPlace R_number R_state R_block R_positive R_negative R_left R_right R_pivot L_of F_cut F_labelledA F_labelledB F_row A_root A_words A_known G_size G_variable G_low G_high G_numberOf G_nodeOf G_sides G_waiting B_table B_nextTable) 0 0 := by
  refine x_entryi (own := R_L) (nm := "having") (by decide) rfl rfl (Nat.le_of_ble_eq_true rfl) (fun p e s m below meth c A ls C0 hw hl => ?_)
  have hx := C0.1
  have hb := C0.2.1
  have hl : lv_has ls 4 [(0, .ref (ad 13)), (1, .int x1)] := hl
  unfold p_L_having at h
  refine lv_iconst (v := 0) hx hb d_L_having_0 (by decide) ?_
  refine lv_istore_n (lv' := [(2, .int (0 : Int32)), (0, .ref (ad 13)), (1, .int x1)]) hx hb d_L_having_1 rfl hl (by decide) rfl (fun ls hl => ?_)
  refine lv_iconst (v := 1) hx hb d_L_having_2 (by decide) ?_
  refine lv_istore_n (lv' := [(3, .int (1 : Int32)), (2, .int (0 : Int32)), (0, .ref (ad 13)), (1, .int x1)]) hx hb d_L_having_3 rfl hl (by decide) rfl (fun ls hl => ?_)
  obtain ⟨j_5, h⟩ := h
  refine b_L_having_L4 C0 _ _ _ h hw (lv_sub hl [2, 3, 1, 0] rfl)
theorem g_F_sharedHaving : GY y_F_sharedHaving b_F_sharedHaving 3 (some .int) 2 := ⟨wm_580, wm_59, by decide +kernel, by decide +kernel, by decide +kernel⟩
def p_F_sharedHaving (L_of : Nat → Int32) (x1 : Int32) (x2 : Int32) (k : Int32 → Prop) : Prop :=
  ((x2 = (0 : Int32) → ((¬ x1 = (2 : Int32) → (k (0 : Int32))) ∧ (x1 = (2 : Int32) → (k (1023 : Int32))))) ∧ (x2 = (1 : Int32) → (k (0 : Int32))) ∧ (x2 = (2 : Int32) → ((¬ x1 = (1 : Int32) → (k (0 : Int32))) ∧ (x1 = (1 : Int32) → (k (1023 : Int32))))) ∧ (¬ x2 = (0 : Int32) → ¬ x2 = (1 : Int32) → ¬ x2 = (2 : Int32) → (p_L_having L_of x1 (fun (r_6 : Int32) => (k r_6)))))
abbrev rm_F_sharedHaving : Room := { frames := 2, cells := 0, slots := 0, locals := 43 }
set_option maxHeartbeats 4000000 in
set_option maxRecDepth 100000 in
theorem c_F_sharedHaving {l : Launch} {D : va_G} {ca : Nat → ClassId} {tp : Nat} {ad : Nat → Nat} {T_length : Int32} {T_bytes : Nat → Int32} {C_size : Int32} {C_given : Int32} {C_empty : Int32} {C_drafted : Int32} {C_draftedGiven : Int32} {C_block : Nat → Int32} {C_left : Nat → Int32} {C_right : Nat → Int32} {C_pivot : Nat → Int32} {C_positive : Nat → Int32} {C_negative : Nat → Int32} {C_live : Nat → Int32} {C_needed : Nat → Int32} {R_kind : Int32} {R_place : Int32} {R_at : Int32} {R_token : Int32} {R_tokenPlace : Int32} {R_number : Int32} {R_state : Int32} {R_block : Int32} {R_positive : Int32} {R_negative : Int32} {R_left : Int32} {R_right : Int32} {R_pivot : Int32} {L_of : Nat → Int32} {F_cut : Int32} {F_labelledA : Int32} {F_labelledB : Int32} {F_row : Nat → Int64} {A_root : Int32} {A_words : Nat → Int64} {A_known : Nat → Int32} {G_size : Int32} {G_variable : Nat → Int32} {G_low : Nat → Int32} {G_high : Nat → Int32} {G_numberOf : Nat → Int32} {G_nodeOf : Nat → Int32} {G_sides : Nat → Int32} {G_waiting : Nat → Int32} {B_table : Nat → Int64} {B_nextTable : Nat → Int64} {x1 : Int32} {x2 : Int32} {k : Int32 → Prop} (h : p_F_sharedHaving L_of x1 x2 k) :
    MTi l y_F_sharedHaving b_F_sharedHaving 3 (some .int) rm_F_sharedHaving D ca tp [.ref (ad 15), .int x1, .int x2] (WB ad ca T_length T_bytes C_size C_given C_empty C_drafted C_draftedGiven C_block C_left C_right C_pivot C_positive C_negative C_live C_needed R_kind R_place R_at R_token R_tokenPlace R_number R_state R_block R_positive R_negative R_left R_right R_pivot L_of F_cut F_labelledA F_labelledB F_row A_root A_words A_known G_size G_variable G_low G_high G_numberOf G_nodeOf G_sides G_waiting B_table B_nextTable)
      (fun r (_ : Unit) => k r)
      (fun (_ : Unit) => WB ad ca T_length T_bytes C_size C_given C_empty C_drafted C_draftedGiven C_block C_left C_right C_pivot C_positive C_negative C_live C_needed R_kind R_place R_at R_token R_tokenPlace R_number R_state R_block R_positive R_negative R_left R_right R_pivot L_of F_cut F_labelledA F_labelledB F_row A_root A_words A_known G_size G_variable G_low G_high G_numberOf G_nodeOf G_sides G_waiting B_table B_nextTable) 0 0 := by
  refine x_entryi (own := R_F) (nm := "sharedHaving") (by decide) rfl rfl (Nat.le_of_ble_eq_true rfl) (fun p e s m below meth c A ls C0 hw hl => ?_)
  have hx := C0.1
  have hb := C0.2.1
  have hl : lv_has ls 3 [(0, .ref (ad 15)), (1, .int x1), (2, .int x2)] := hl
  unfold p_F_sharedHaving at h
  refine lv_iload_n hx hb d_F_sharedHaving_0 rfl (lv_at hl 2 rfl) ?_
  by_cases c_1 : x2 = (0 : Int32)
  · have h := h.1 c_1
    refine lv_tableIn (tgt := 28) (off := 27) hx hb d_F_sharedHaving_1 (by rw [c_1]; decide) (by rw [c_1]; decide) (by rw [c_1]; rfl) (by decide) ?_
    refine lv_iload_n hx hb d_F_sharedHaving_28 rfl (lv_at hl 1 rfl) ?_
    refine lv_iconst (v := 2) hx hb d_F_sharedHaving_29 (by decide) ?_
    refine lv_icmp_ne (tgt := 39) hx hb d_F_sharedHaving_30 (by decide) (fun c_2 => ?_) (fun c_2 => ?_)
    · have h := h.1 c_2
      refine lv_iconst (v := 0) hx hb d_F_sharedHaving_39 (by decide) ?_
      exact x_iret C0 hw () h rfl d_F_sharedHaving_40
    · have h := h.2 c_2
      refine lv_sipush (v := 1023) hx hb d_F_sharedHaving_33 (by decide) ?_
      refine lv_goto (tgt := 40) hx hb d_F_sharedHaving_36 (by decide) ?_
      exact x_iret C0 hw () h rfl d_F_sharedHaving_40
  by_cases c_3 : x2 = (1 : Int32)
  · have h := h.2.1 c_3
    refine lv_tableIn (tgt := 41) (off := 40) hx hb d_F_sharedHaving_1 (by rw [c_3]; decide) (by rw [c_3]; decide) (by rw [c_3]; rfl) (by decide) ?_
    refine lv_iconst (v := 0) hx hb d_F_sharedHaving_41 (by decide) ?_
    exact x_iret C0 hw () h rfl d_F_sharedHaving_42
  by_cases c_4 : x2 = (2 : Int32)
  · have h := h.2.2.1 c_4
    refine lv_tableIn (tgt := 43) (off := 42) hx hb d_F_sharedHaving_1 (by rw [c_4]; decide) (by rw [c_4]; decide) (by rw [c_4]; rfl) (by decide) ?_
    refine lv_iload_n hx hb d_F_sharedHaving_43 rfl (lv_at hl 1 rfl) ?_
    refine lv_iconst (v := 1) hx hb d_F_sharedHaving_44 (by decide) ?_
    refine lv_icmp_ne (tgt := 54) hx hb d_F_sharedHaving_45 (by decide) (fun c_5 => ?_) (fun c_5 => ?_)
    · have h := h.1 c_5
      refine lv_iconst (v := 0) hx hb d_F_sharedHaving_54 (by decide) ?_
      exact x_iret C0 hw () h rfl d_F_sharedHaving_55
    · have h := h.2 c_5
      refine lv_sipush (v := 1023) hx hb d_F_sharedHaving_48 (by decide) ?_
      refine lv_goto (tgt := 55) hx hb d_F_sharedHaving_51 (by decide) ?_
      exact x_iret C0 hw () h rfl d_F_sharedHaving_55
  have h := h.2.2.2 c_1 c_3 c_4
  refine lv_tableOut (tgt := 56) hx hb d_F_sharedHaving_1 (by have q0 := lv_neT c_1 (a := 0) rfl; have q1 := lv_neT c_3 (a := 1) rfl; have q2 := lv_neT c_4 (a := 2) rfl; omega) (by decide) ?_
  refine lv_aload_n hx hb d_F_sharedHaving_56 rfl (lv_at hl 0 rfl) ?_
  refine x_get C0 hw 15 rfl rfl i_F 1 (by decide) wm_231 rfl rfl d_F_sharedHaving_57 ?_
  refine lv_iload_n hx hb d_F_sharedHaving_60 rfl (lv_at hl 1 rfl) ?_
  refine x_callVi C0 hw hl (c_L_having h) g_L_having wm_581 ⟨wm_583, wm_582⟩ 13 rfl rfl rfl (As := [.int x1]) (rest := []) rfl rfl (Nat.le_of_ble_eq_true rfl) ⟨rfl, rfl⟩ ⟨Nat.le_of_ble_eq_true rfl, Nat.le_of_ble_eq_true rfl⟩ ⟨Nat.le_of_ble_eq_true rfl, Nat.le_of_ble_eq_true rfl⟩ d_F_sharedHaving_61 (fun r_6 u H locs h hw => ?_)
  exact x_iret C0 hw () h rfl d_F_sharedHaving_64
theorem g_F_choose : GY y_F_choose b_F_choose 6 none 2 := ⟨wm_575, wm_59, by decide +kernel, by decide +kernel, by decide +kernel⟩
def p_F_choose (C_size : Int32) (C_block : Nat → Int32) (C_positive : Nat → Int32) (C_negative : Nat → Int32) (L_of : Nat → Int32) (x1 : Int32) (x2 : Int32) (k : Int32 → Int32 → Int32 → Prop) : Prop :=
  (p_C_occurring C_size C_block C_positive C_negative (1 : Int32) x1 (fun (r_1 : Int32) => (p_C_occurring C_size C_block C_positive C_negative (x1 + (1 : Int32)) (8 : Int32) (fun (r_2 : Int32) => (p_F_sharedHaving L_of (1 : Int32) x2 (fun (r_3 : Int32) => (∀ v_labelledA_4 : Int32, v_labelledA_4 = (((1023 : Int32) &&& (r_2 ^^^ (-1 : Int32))) ||| ((r_1 &&& r_2) &&& r_3)) → (p_F_sharedHaving L_of (2 : Int32) x2 (fun (r_5 : Int32) => (∀ v_labelledB_6 : Int32, v_labelledB_6 = ((r_2 &&& (r_1 ^^^ (-1 : Int32))) ||| ((r_1 &&& r_2) &&& r_5)) → (k x1 v_labelledA_4 v_labelledB_6)))))))))))
abbrev rm_F_choose : Room := { frames := 3, cells := 0, slots := 0, locals := 65 }
set_option maxHeartbeats 4000000 in
set_option maxRecDepth 100000 in
theorem c_F_choose {l : Launch} {D : va_G} {ca : Nat → ClassId} {tp : Nat} {ad : Nat → Nat} {T_length : Int32} {T_bytes : Nat → Int32} {C_size : Int32} {C_given : Int32} {C_empty : Int32} {C_drafted : Int32} {C_draftedGiven : Int32} {C_block : Nat → Int32} {C_left : Nat → Int32} {C_right : Nat → Int32} {C_pivot : Nat → Int32} {C_positive : Nat → Int32} {C_negative : Nat → Int32} {C_live : Nat → Int32} {C_needed : Nat → Int32} {R_kind : Int32} {R_place : Int32} {R_at : Int32} {R_token : Int32} {R_tokenPlace : Int32} {R_number : Int32} {R_state : Int32} {R_block : Int32} {R_positive : Int32} {R_negative : Int32} {R_left : Int32} {R_right : Int32} {R_pivot : Int32} {L_of : Nat → Int32} {F_cut : Int32} {F_labelledA : Int32} {F_labelledB : Int32} {F_row : Nat → Int64} {A_root : Int32} {A_words : Nat → Int64} {A_known : Nat → Int32} {G_size : Int32} {G_variable : Nat → Int32} {G_low : Nat → Int32} {G_high : Nat → Int32} {G_numberOf : Nat → Int32} {G_nodeOf : Nat → Int32} {G_sides : Nat → Int32} {G_waiting : Nat → Int32} {B_table : Nat → Int64} {B_nextTable : Nat → Int64} {x1 : Int32} {x2 : Int32} {k : Int32 → Int32 → Int32 → Prop} (h : p_F_choose C_size C_block C_positive C_negative L_of x1 x2 k) :
    MTv l y_F_choose b_F_choose 6 none rm_F_choose D ca tp [.ref (ad 15), .int x1, .int x2] (WB ad ca T_length T_bytes C_size C_given C_empty C_drafted C_draftedGiven C_block C_left C_right C_pivot C_positive C_negative C_live C_needed R_kind R_place R_at R_token R_tokenPlace R_number R_state R_block R_positive R_negative R_left R_right R_pivot L_of F_cut F_labelledA F_labelledB F_row A_root A_words A_known G_size G_variable G_low G_high G_numberOf G_nodeOf G_sides G_waiting B_table B_nextTable)
      (fun (u : Int32 × Int32 × Int32) => k u.1 u.2.1 u.2.2)
      (fun (u : Int32 × Int32 × Int32) => WB ad ca T_length T_bytes C_size C_given C_empty C_drafted C_draftedGiven C_block C_left C_right C_pivot C_positive C_negative C_live C_needed R_kind R_place R_at R_token R_tokenPlace R_number R_state R_block R_positive R_negative R_left R_right R_pivot L_of u.1 u.2.1 u.2.2 F_row A_root A_words A_known G_size G_variable G_low G_high G_numberOf G_nodeOf G_sides G_waiting B_table B_nextTable) 0 0 := by
  refine x_entryv (own := R_F) (nm := "choose") (by decide) rfl rfl (Nat.le_of_ble_eq_true rfl) (fun p e s m below meth c A ls C0 hw hl => ?_)
  have hx := C0.1
  have hb := C0.2.1
  have hl : lv_has ls 6 [(0, .ref (ad 15)), (1, .int x1), (2, .int x2)] := hl
  unfold p_F_choose at h
  refine lv_aload_n hx hb d_F_choose_0 rfl (lv_at hl 0 rfl) ?_
  refine x_get C0 hw 15 rfl rfl i_F 0 (by decide) wm_230 rfl rfl d_F_choose_1 ?_
  refine lv_iconst (v := 1) hx hb d_F_choose_4 (by decide) ?_
  refine lv_iload_n hx hb d_F_choose_5 rfl (lv_at hl 1 rfl) ?_
  refine x_callVi C0 hw hl (c_C_occurring h) g_C_occurring wm_576 ⟨wm_559, wm_558⟩ 3 rfl rfl rfl (As := [.int (1 : Int32), .int x1]) (rest := []) rfl rfl (Nat.le_of_ble_eq_true rfl) ⟨rfl, rfl⟩ ⟨Nat.le_of_ble_eq_true rfl, Nat.le_of_ble_eq_true rfl⟩ ⟨Nat.le_of_ble_eq_true rfl, Nat.le_of_ble_eq_true rfl⟩ d_F_choose_6 (fun r_1 u H locs h hw => ?_)
  refine lv_istore_n (lv' := [(3, .int r_1), (0, .ref (ad 15)), (1, .int x1), (2, .int x2)]) hx hb d_F_choose_9 rfl hl (by decide) rfl (fun ls hl => ?_)
  refine lv_aload_n hx hb d_F_choose_10 rfl (lv_at hl 1 rfl) ?_
  refine x_get C0 hw 15 rfl rfl i_F 0 (by decide) wm_230 rfl rfl d_F_choose_11 ?_
  refine lv_iload_n hx hb d_F_choose_14 rfl (lv_at hl 2 rfl) ?_
  refine lv_iconst (v := 1) hx hb d_F_choose_15 (by decide) ?_
  refine lv_iadd hx hb d_F_choose_16 ?_
  refine lv_bipush (v := 8) hx hb d_F_choose_17 (by decide) ?_
  refine x_callVi C0 hw hl (c_C_occurring h) g_C_occurring wm_576 ⟨wm_559, wm_558⟩ 3 rfl rfl rfl (As := [.int (x1 + (1 : Int32)), .int (8 : Int32)]) (rest := []) rfl rfl (Nat.le_of_ble_eq_true rfl) ⟨rfl, rfl⟩ ⟨Nat.le_of_ble_eq_true rfl, Nat.le_of_ble_eq_true rfl⟩ ⟨Nat.le_of_ble_eq_true rfl, Nat.le_of_ble_eq_true rfl⟩ d_F_choose_19 (fun r_2 u H locs h hw => ?_)
  refine lv_istore (lv' := [(4, .int r_2), (3, .int r_1), (0, .ref (ad 15)), (1, .int x1), (2, .int x2)]) hx hb d_F_choose_22 hl (by decide) rfl (fun ls hl => ?_)
  refine lv_iload_n hx hb d_F_choose_24 rfl (lv_at hl 1 rfl) ?_
  refine lv_iload hx hb d_F_choose_25 (lv_at hl 0 rfl) ?_
  refine lv_iand hx hb d_F_choose_27 ?_
  refine lv_istore (lv' := [(5, .int (r_1 &&& r_2)), (4, .int r_2), (3, .int r_1), (0, .ref (ad 15)), (1, .int x1), (2, .int x2)]) hx hb d_F_choose_28 hl (by decide) rfl (fun ls hl => ?_)
  refine lv_aload_n hx hb d_F_choose_30 rfl (lv_at hl 3 rfl) ?_
  refine lv_iload_n hx hb d_F_choose_31 rfl (lv_at hl 4 rfl) ?_
  refine x_put C0 hw 15 rfl rfl i_F tk_F n_F 3 (by decide) wm_234 rfl rfl rfl rfl (Nat.le_of_ble_eq_true rfl) (ws' := WB ad ca T_length T_bytes C_size C_given C_empty C_drafted C_draftedGiven C_block C_left C_right C_pivot C_positive C_negative C_live C_needed R_kind R_place R_at R_token R_tokenPlace R_number R_state R_block R_positive R_negative R_left R_right R_pivot L_of x1 F_labelledA F_labelledB F_row A_root A_words A_known G_size G_variable G_low G_high G_numberOf G_nodeOf G_sides G_waiting B_table B_nextTable) rfl d_F_choose_32 (fun H locs hw => ?_)
  refine lv_aload_n hx hb d_F_choose_35 rfl (lv_at hl 3 rfl) ?_
  refine lv_sipush (v := 1023) hx hb d_F_choose_36 (by decide) ?_
  refine lv_iload hx hb d_F_choose_39 (lv_at hl 1 rfl) ?_
  refine lv_iconst (v := -1) hx hb d_F_choose_41 (by decide) ?_
  refine lv_ixor hx hb d_F_choose_42 ?_
  refine lv_iand hx hb d_F_choose_43 ?_
  refine lv_iload hx hb d_F_choose_44 (lv_at hl 0 rfl) ?_
  refine lv_aload_n hx hb d_F_choose_46 rfl (lv_at hl 3 rfl) ?_
  refine lv_iconst (v := 1) hx hb d_F_choose_47 (by decide) ?_
  refine lv_iload_n hx hb d_F_choose_48 rfl (lv_at hl 5 rfl) ?_
  refine x_callVi C0 hw hl (c_F_sharedHaving h) g_F_sharedHaving wm_577 ⟨wm_25, wm_579⟩ 15 rfl rfl rfl (As := [.int (1 : Int32), .int x2]) (rest := [.int (r_1 &&& r_2), .int ((1023 : Int32) &&& (r_2 ^^^ (-1 : Int32))), .ref (ad 15)]) rfl rfl (Nat.le_of_ble_eq_true rfl) ⟨rfl, rfl⟩ ⟨Nat.le_of_ble_eq_true rfl, Nat.le_of_ble_eq_true rfl⟩ ⟨Nat.le_of_ble_eq_true rfl, Nat.le_of_ble_eq_true rfl⟩ d_F_choose_49 (fun r_3 u H locs h hw => ?_)
  refine lv_iand hx hb d_F_choose_52 ?_
  refine lv_ior hx hb d_F_choose_53 ?_
  refine lv_topi (fun v_labelledA_4 e_v_labelledA_4 => ?_)
  have h := h v_labelledA_4 e_v_labelledA_4
  refine x_put C0 hw 15 rfl rfl i_F tk_F n_F 4 (by decide) wm_235 rfl rfl rfl rfl (Nat.le_of_ble_eq_true rfl) (ws' := WB ad ca T_length T_bytes C_size C_given C_empty C_drafted C_draftedGiven C_block C_left C_right C_pivot C_positive C_negative C_live C_needed R_kind R_place R_at R_token R_tokenPlace R_number R_state R_block R_positive R_negative R_left R_right R_pivot L_of x1 v_labelledA_4 F_labelledB F_row A_root A_words A_known G_size G_variable G_low G_high G_numberOf G_nodeOf G_sides G_waiting B_table B_nextTable) rfl d_F_choose_54 (fun H locs hw => ?_)
  refine lv_aload_n hx hb d_F_choose_57 rfl (lv_at hl 3 rfl) ?_
  refine lv_iload hx hb d_F_choose_58 (lv_at hl 1 rfl) ?_
  refine lv_iload_n hx hb d_F_choose_60 rfl (lv_at hl 2 rfl) ?_
  refine lv_iconst (v := -1) hx hb d_F_choose_61 (by decide) ?_
  refine lv_ixor hx hb d_F_choose_62 ?_
  refine lv_iand hx hb d_F_choose_63 ?_
  refine lv_iload hx hb d_F_choose_64 (lv_at hl 0 rfl) ?_
  refine lv_aload_n hx hb d_F_choose_66 rfl (lv_at hl 3 rfl) ?_
  refine lv_iconst (v := 2) hx hb d_F_choose_67 (by decide) ?_
  refine lv_iload_n hx hb d_F_choose_68 rfl (lv_at hl 5 rfl) ?_
  refine x_callVi C0 hw hl (c_F_sharedHaving h) g_F_sharedHaving wm_577 ⟨wm_25, wm_579⟩ 15 rfl rfl rfl (As := [.int (2 : Int32), .int x2]) (rest := [.int (r_1 &&& r_2), .int (r_2 &&& (r_1 ^^^ (-1 : Int32))), .ref (ad 15)]) rfl rfl (Nat.le_of_ble_eq_true rfl) ⟨rfl, rfl⟩ ⟨Nat.le_of_ble_eq_true rfl, Nat.le_of_ble_eq_true rfl⟩ ⟨Nat.le_of_ble_eq_true rfl, Nat.le_of_ble_eq_true rfl⟩ d_F_choose_69 (fun r_5 u H locs h hw => ?_)
  refine lv_iand hx hb d_F_choose_72 ?_
  refine lv_ior hx hb d_F_choose_73 ?_
  refine lv_topi (fun v_labelledB_6 e_v_labelledB_6 => ?_)
  have h := h v_labelledB_6 e_v_labelledB_6
  refine x_put C0 hw 15 rfl rfl i_F tk_F n_F 5 (by decide) wm_236 rfl rfl rfl rfl (Nat.le_of_ble_eq_true rfl) (ws' := WB ad ca T_length T_bytes C_size C_given C_empty C_drafted C_draftedGiven C_block C_left C_right C_pivot C_positive C_negative C_live C_needed R_kind R_place R_at R_token R_tokenPlace R_number R_state R_block R_positive R_negative R_left R_right R_pivot L_of x1 v_labelledA_4 v_labelledB_6 F_row A_root A_words A_known G_size G_variable G_low G_high G_numberOf G_nodeOf G_sides G_waiting B_table B_nextTable) rfl d_F_choose_74 (fun H locs hw => ?_)
  exact x_vret C0 hw (x1, v_labelledA_4, v_labelledB_6) h rfl d_F_choose_77
theorem g_F_ofGiven : GY y_F_ofGiven b_F_ofGiven 5 (some .long) 2 := ⟨wm_609, wm_59, by decide +kernel, by decide +kernel, by decide +kernel⟩
def p_F_ofGiven (C_block : Nat → Int32) (C_positive : Nat → Int32) (C_negative : Nat → Int32) (F_cut : Int32) (F_labelledA : Int32) (F_labelledB : Int32) (x1 : Int32) (x2 : Int32) (k : Int64 → Prop) : Prop :=
  (vp_in x1 201 ∧ ((F_cut < (C_block x1.toNatClampNeg) → (p_U_ofAny ((C_positive x1.toNatClampNeg) &&& F_labelledA) ((C_negative x1.toNatClampNeg) &&& F_labelledA) x2 (fun (r_3 : Int64) => (k (r_3 ^^^ (-1 : Int64)))))) ∧ (¬ F_cut < (C_block x1.toNatClampNeg) → (p_U_ofAny ((C_positive x1.toNatClampNeg) &&& F_labelledB) ((C_negative x1.toNatClampNeg) &&& F_labelledB) x2 (fun (r_4 : Int64) => (k r_4))))))
abbrev rm_F_ofGiven : Room := { frames := 2, cells := 0, slots := 0, locals := 46 }
set_option maxHeartbeats 4000000 in
set_option maxRecDepth 100000 in
theorem c_F_ofGiven {l : Launch} {D : va_G} {ca : Nat → ClassId} {tp : Nat} {ad : Nat → Nat} {T_length : Int32} {T_bytes : Nat → Int32} {C_size : Int32} {C_given : Int32} {C_empty : Int32} {C_drafted : Int32} {C_draftedGiven : Int32} {C_block : Nat → Int32} {C_left : Nat → Int32} {C_right : Nat → Int32} {C_pivot : Nat → Int32} {C_positive : Nat → Int32} {C_negative : Nat → Int32} {C_live : Nat → Int32} {C_needed : Nat → Int32} {R_kind : Int32} {R_place : Int32} {R_at : Int32} {R_token : Int32} {R_tokenPlace : Int32} {R_number : Int32} {R_state : Int32} {R_block : Int32} {R_positive : Int32} {R_negative : Int32} {R_left : Int32} {R_right : Int32} {R_pivot : Int32} {L_of : Nat → Int32} {F_cut : Int32} {F_labelledA : Int32} {F_labelledB : Int32} {F_row : Nat → Int64} {A_root : Int32} {A_words : Nat → Int64} {A_known : Nat → Int32} {G_size : Int32} {G_variable : Nat → Int32} {G_low : Nat → Int32} {G_high : Nat → Int32} {G_numberOf : Nat → Int32} {G_nodeOf : Nat → Int32} {G_sides : Nat → Int32} {G_waiting : Nat → Int32} {B_table : Nat → Int64} {B_nextTable : Nat → Int64} {x1 : Int32} {x2 : Int32} {k : Int64 → Prop} (h : p_F_ofGiven C_block C_positive C_negative F_cut F_labelledA F_labelledB x1 x2 k) :
    MTl l y_F_ofGiven b_F_ofGiven 5 (some .long) rm_F_ofGiven D ca tp [.ref (ad 15), .int x1, .int x2] (WB ad ca T_length T_bytes C_size C_given C_empty C_drafted C_draftedGiven C_block C_left C_right C_pivot C_positive C_negative C_live C_needed R_kind R_place R_at R_token R_tokenPlace R_number R_state R_block R_positive R_negative R_left R_right R_pivot L_of F_cut F_labelledA F_labelledB F_row A_root A_words A_known G_size G_variable G_low G_high G_numberOf G_nodeOf G_sides G_waiting B_table B_nextTable)
      (fun r (_ : Unit) => k r)
      (fun (_ : Unit) => WB ad ca T_length T_bytes C_size C_given C_empty C_drafted C_draftedGiven C_block C_left C_right C_pivot C_positive C_negative C_live C_needed R_kind R_place R_at R_token R_tokenPlace R_number R_state R_block R_positive R_negative R_left R_right R_pivot L_of F_cut F_labelledA F_labelledB F_row A_root A_words A_known G_size G_variable G_low G_high G_numberOf G_nodeOf G_sides G_waiting B_table B_nextTable) 0 0 := by
  refine x_entryl (own := R_F) (nm := "ofGiven") (by decide) rfl rfl (Nat.le_of_ble_eq_true rfl) (fun p e s m below meth c A ls C0 hw hl => ?_)
  have hx := C0.1
  have hb := C0.2.1
  have hl : lv_has ls 5 [(0, .ref (ad 15)), (1, .int x1), (2, .int x2)] := hl
  unfold p_F_ofGiven at h
  refine lv_aload_n hx hb d_F_ofGiven_0 rfl (lv_at hl 0 rfl) ?_
  refine x_get C0 hw 15 rfl rfl i_F 0 (by decide) wm_230 rfl rfl d_F_ofGiven_1 ?_
  refine x_getN C0 hw 3 rfl rfl i_C 4 (by decide) wm_108 rfl rfl d_F_ofGiven_4 ?_
  refine lv_iload_n hx hb d_F_ofGiven_7 rfl (lv_at hl 1 rfl) ?_
  obtain ⟨hi_1, h⟩ := h
  refine x_iald C0 hw 8 rfl hi_1 d_F_ofGiven_8 ?_
  refine lv_istore_n (lv' := [(3, .int (C_positive x1.toNatClampNeg)), (0, .ref (ad 15)), (1, .int x1), (2, .int x2)]) hx hb d_F_ofGiven_9 rfl hl (by decide) rfl (fun ls hl => ?_)
  refine lv_aload_n hx hb d_F_ofGiven_10 rfl (lv_at hl 1 rfl) ?_
  refine x_get C0 hw 15 rfl rfl i_F 0 (by decide) wm_230 rfl rfl d_F_ofGiven_11 ?_
  refine x_getN C0 hw 3 rfl rfl i_C 5 (by decide) wm_111 rfl rfl d_F_ofGiven_14 ?_
  refine lv_iload_n hx hb d_F_ofGiven_17 rfl (lv_at hl 2 rfl) ?_
  refine x_iald C0 hw 9 rfl hi_1 d_F_ofGiven_18 ?_
  refine lv_istore (lv' := [(4, .int (C_negative x1.toNatClampNeg)), (3, .int (C_positive x1.toNatClampNeg)), (0, .ref (ad 15)), (1, .int x1), (2, .int x2)]) hx hb d_F_ofGiven_19 hl (by decide) rfl (fun ls hl => ?_)
  refine lv_aload_n hx hb d_F_ofGiven_21 rfl (lv_at hl 2 rfl) ?_
  refine x_get C0 hw 15 rfl rfl i_F 0 (by decide) wm_230 rfl rfl d_F_ofGiven_22 ?_
  refine x_getN C0 hw 3 rfl rfl i_C 0 (by decide) wm_96 rfl rfl d_F_ofGiven_25 ?_
  refine lv_iload_n hx hb d_F_ofGiven_28 rfl (lv_at hl 3 rfl) ?_
  refine x_iald C0 hw 4 rfl hi_1 d_F_ofGiven_29 ?_
  refine lv_aload_n hx hb d_F_ofGiven_30 rfl (lv_at hl 2 rfl) ?_
  refine x_get C0 hw 15 rfl rfl i_F 3 (by decide) wm_234 rfl rfl d_F_ofGiven_31 ?_
  refine lv_icmp_gt (tgt := 55) hx hb d_F_ofGiven_34 (by decide) (fun c_2 => ?_) (fun c_2 => ?_)
  · have h := h.1 c_2
    refine lv_iload_n hx hb d_F_ofGiven_55 rfl (lv_at hl 1 rfl) ?_
    refine lv_aload_n hx hb d_F_ofGiven_56 rfl (lv_at hl 2 rfl) ?_
    refine x_get C0 hw 15 rfl rfl i_F 4 (by decide) wm_235 rfl rfl d_F_ofGiven_57 ?_
    refine lv_iand hx hb d_F_ofGiven_60 ?_
    refine lv_iload hx hb d_F_ofGiven_61 (lv_at hl 0 rfl) ?_
    refine lv_aload_n hx hb d_F_ofGiven_63 rfl (lv_at hl 2 rfl) ?_
    refine x_get C0 hw 15 rfl rfl i_F 4 (by decide) wm_235 rfl rfl d_F_ofGiven_64 ?_
    refine lv_iand hx hb d_F_ofGiven_67 ?_
    refine lv_iload_n hx hb d_F_ofGiven_68 rfl (lv_at hl 4 rfl) ?_
    refine x_callSl C0 hw hl (c_U_ofAny h) g_U_ofAny wm_610 wm_611 (As := [.int ((C_positive x1.toNatClampNeg) &&& F_labelledA), .int ((C_negative x1.toNatClampNeg) &&& F_labelledA), .int x2]) (rest := []) rfl rfl (Nat.le_of_ble_eq_true rfl) ⟨rfl, rfl⟩ ⟨Nat.le_of_ble_eq_true rfl, Nat.le_of_ble_eq_true rfl⟩ ⟨Nat.le_of_ble_eq_true rfl, Nat.le_of_ble_eq_true rfl⟩ d_F_ofGiven_69 (fun r_3 u H locs h hw => ?_)
    refine x_ldc2 C0 wm_605 d_F_ofGiven_72 ?_
    refine lv_lxor hx hb d_F_ofGiven_75 ?_
    exact x_lret C0 hw () h rfl d_F_ofGiven_76
  · have h := h.2 c_2
    refine lv_iload_n hx hb d_F_ofGiven_37 rfl (lv_at hl 1 rfl) ?_
    refine lv_aload_n hx hb d_F_ofGiven_38 rfl (lv_at hl 2 rfl) ?_
    refine x_get C0 hw 15 rfl rfl i_F 5 (by decide) wm_236 rfl rfl d_F_ofGiven_39 ?_
    refine lv_iand hx hb d_F_ofGiven_42 ?_
    refine lv_iload hx hb d_F_ofGiven_43 (lv_at hl 0 rfl) ?_
    refine lv_aload_n hx hb d_F_ofGiven_45 rfl (lv_at hl 2 rfl) ?_
    refine x_get C0 hw 15 rfl rfl i_F 5 (by decide) wm_236 rfl rfl d_F_ofGiven_46 ?_
    refine lv_iand hx hb d_F_ofGiven_49 ?_
    refine lv_iload_n hx hb d_F_ofGiven_50 rfl (lv_at hl 4 rfl) ?_
    refine x_callSl C0 hw hl (c_U_ofAny h) g_U_ofAny wm_610 wm_611 (As := [.int ((C_positive x1.toNatClampNeg) &&& F_labelledB), .int ((C_negative x1.toNatClampNeg) &&& F_labelledB), .int x2]) (rest := []) rfl rfl (Nat.le_of_ble_eq_true rfl) ⟨rfl, rfl⟩ ⟨Nat.le_of_ble_eq_true rfl, Nat.le_of_ble_eq_true rfl⟩ ⟨Nat.le_of_ble_eq_true rfl, Nat.le_of_ble_eq_true rfl⟩ d_F_ofGiven_51 (fun r_4 u H locs h hw => ?_)
    exact x_lret C0 hw () h rfl d_F_ofGiven_54
theorem g_F_ofResolvent : GY y_F_ofResolvent b_F_ofResolvent 10 (some .long) 2 := ⟨wm_597, wm_59, by decide +kernel, by decide +kernel, by decide +kernel⟩
def p_F_ofResolvent (C_left : Nat → Int32) (C_right : Nat → Int32) (C_pivot : Nat → Int32) (F_labelledA : Int32) (F_labelledB : Int32) (F_row : Nat → Int64) (x1 : Int32) (x2 : Int32) (k : Int64 → Prop) : Prop :=
  (vp_in x1 201 ∧ (vp_in (C_left x1.toNatClampNeg) 201 ∧ (vp_in (C_right x1.toNatClampNeg) 201 ∧ (p_B_bitOf (C_pivot x1.toNatClampNeg) (fun (r_4 : Int32) => (((F_labelledA &&& r_4) = 0 → (p_B_bitOf (C_pivot x1.toNatClampNeg) (fun (r_6 : Int32) => (((F_labelledB &&& r_6) = 0 → (p_U_ofVariable (C_pivot x1.toNatClampNeg) x2 (fun (r_8 : Int64) => (k ((r_8 ||| (F_row (C_left x1.toNatClampNeg).toNatClampNeg)) &&& ((r_8 ^^^ (-1 : Int64)) ||| (F_row (C_right x1.toNatClampNeg).toNatClampNeg))))))) ∧ (¬ (F_labelledB &&& r_6) = 0 → (k ((F_row (C_left x1.toNatClampNeg).toNatClampNeg) &&& (F_row (C_right x1.toNatClampNeg).toNatClampNeg)))))))) ∧ (¬ (F_labelledA &&& r_4) = 0 → (k ((F_row (C_left x1.toNatClampNeg).toNatClampNeg) ||| (F_row (C_right x1.toNatClampNeg).toNatClampNeg))))))))))
abbrev rm_F_ofResolvent : Room := { frames := 1, cells := 0, slots := 0, locals := 21 }
set_option maxHeartbeats 4000000 in
set_option maxRecDepth 100000 in
theorem c_F_ofResolvent {l : Launch} {D : va_G} {ca : Nat → ClassId} {tp : Nat} {ad : Nat → Nat} {T_length : Int32} {T_bytes : Nat → Int32} {C_size : Int32} {C_given : Int32} {C_empty : Int32} {C_drafted : Int32} {C_draftedGiven : Int32} {C_block : Nat → Int32} {C_left : Nat → Int32} {C_right : Nat → Int32} {C_pivot : Nat → Int32} {C_positive : Nat → Int32} {C_negative : Nat → Int32} {C_live : Nat → Int32} {C_needed : Nat → Int32} {R_kind : Int32} {R_place : Int32} {R_at : Int32} {R_token : Int32} {R_tokenPlace : Int32} {R_number : Int32} {R_state : Int32} {R_block : Int32} {R_positive : Int32} {R_negative : Int32} {R_left : Int32} {R_right : Int32} {R_pivot : Int32} {L_of : Nat → Int32} {F_cut : Int32} {F_labelledA : Int32} {F_labelledB : Int32} {F_row : Nat → Int64} {A_root : Int32} {A_words : Nat → Int64} {A_known : Nat → Int32} {G_size : Int32} {G_variable : Nat → Int32} {G_low : Nat → Int32} {G_high : Nat → Int32} {G_numberOf : Nat → Int32} {G_nodeOf : Nat → Int32} {G_sides : Nat → Int32} {G_waiting : Nat → Int32} {B_table : Nat → Int64} {B_nextTable : Nat → Int64} {x1 : Int32} {x2 : Int32} {k : Int64 → Prop} (h : p_F_ofResolvent C_left C_right C_pivot F_labelledA F_labelledB F_row x1 x2 k) :
    MTl l y_F_ofResolvent b_F_ofResolvent 10 (some .long) rm_F_ofResolvent D ca tp [.ref (ad 15), .int x1, .int x2] (WB ad ca T_length T_bytes C_size C_given C_empty C_drafted C_draftedGiven C_block C_left C_right C_pivot C_positive C_negative C_live C_needed R_kind R_place R_at R_token R_tokenPlace R_number R_state R_block R_positive R_negative R_left R_right R_pivot L_of F_cut F_labelledA F_labelledB F_row A_root A_words A_known G_size G_variable G_low G_high G_numberOf G_nodeOf G_sides G_waiting B_table B_nextTable)
      (fun r (_ : Unit) => k r)
      (fun (_ : Unit) => WB ad ca T_length T_bytes C_size C_given C_empty C_drafted C_draftedGiven C_block C_left C_right C_pivot C_positive C_negative C_live C_needed R_kind R_place R_at R_token R_tokenPlace R_number R_state R_block R_positive R_negative R_left R_right R_pivot L_of F_cut F_labelledA F_labelledB F_row A_root A_words A_known G_size G_variable G_low G_high G_numberOf G_nodeOf G_sides G_waiting B_table B_nextTable) 0 0 := by
  refine x_entryl (own := R_F) (nm := "ofResolvent") (by decide) rfl rfl (Nat.le_of_ble_eq_true rfl) (fun p e s m below meth c A ls C0 hw hl => ?_)
  have hx := C0.1
  have hb := C0.2.1
  have hl : lv_has ls 10 [(0, .ref (ad 15)), (1, .int x1), (2, .int x2)] := hl
  unfold p_F_ofResolvent at h
  refine lv_aload_n hx hb d_F_ofResolvent_0 rfl (lv_at hl 0 rfl) ?_
  refine x_get C0 hw 15 rfl rfl i_F 2 (by decide) wm_232 rfl rfl d_F_ofResolvent_1 ?_
  refine lv_aload_n hx hb d_F_ofResolvent_4 rfl (lv_at hl 0 rfl) ?_
  refine x_get C0 hw 15 rfl rfl i_F 0 (by decide) wm_230 rfl rfl d_F_ofResolvent_5 ?_
  refine x_getN C0 hw 3 rfl rfl i_C 1 (by decide) wm_99 rfl rfl d_F_ofResolvent_8 ?_
  refine lv_iload_n hx hb d_F_ofResolvent_11 rfl (lv_at hl 1 rfl) ?_
  obtain ⟨hi_1, h⟩ := h
  refine x_iald C0 hw 5 rfl hi_1 d_F_ofResolvent_12 ?_
  obtain ⟨hi_2, h⟩ := h
  refine x_lald C0 hw 16 rfl hi_2 d_F_ofResolvent_13 ?_
  refine lv_lstore_n (lv' := [(3, .long (F_row (C_left x1.toNatClampNeg).toNatClampNeg)), (0, .ref (ad 15)), (1, .int x1), (2, .int x2)]) hx hb d_F_ofResolvent_14 rfl hl (by decide) rfl (fun ls hl => ?_)
  refine lv_aload_n hx hb d_F_ofResolvent_15 rfl (lv_at hl 1 rfl) ?_
  refine x_get C0 hw 15 rfl rfl i_F 2 (by decide) wm_232 rfl rfl d_F_ofResolvent_16 ?_
  refine lv_aload_n hx hb d_F_ofResolvent_19 rfl (lv_at hl 1 rfl) ?_
  refine x_get C0 hw 15 rfl rfl i_F 0 (by decide) wm_230 rfl rfl d_F_ofResolvent_20 ?_
  refine x_getN C0 hw 3 rfl rfl i_C 2 (by decide) wm_102 rfl rfl d_F_ofResolvent_23 ?_
  refine lv_iload_n hx hb d_F_ofResolvent_26 rfl (lv_at hl 2 rfl) ?_
  refine x_iald C0 hw 6 rfl hi_1 d_F_ofResolvent_27 ?_
  obtain ⟨hi_3, h⟩ := h
  refine x_lald C0 hw 16 rfl hi_3 d_F_ofResolvent_28 ?_
  refine lv_lstore (lv' := [(5, .long (F_row (C_right x1.toNatClampNeg).toNatClampNeg)), (3, .long (F_row (C_left x1.toNatClampNeg).toNatClampNeg)), (0, .ref (ad 15)), (1, .int x1), (2, .int x2)]) hx hb d_F_ofResolvent_29 hl (by decide) rfl (fun ls hl => ?_)
  refine lv_aload_n hx hb d_F_ofResolvent_31 rfl (lv_at hl 2 rfl) ?_
  refine x_get C0 hw 15 rfl rfl i_F 0 (by decide) wm_230 rfl rfl d_F_ofResolvent_32 ?_
  refine x_getN C0 hw 3 rfl rfl i_C 3 (by decide) wm_105 rfl rfl d_F_ofResolvent_35 ?_
  refine lv_iload_n hx hb d_F_ofResolvent_38 rfl (lv_at hl 3 rfl) ?_
  refine x_iald C0 hw 7 rfl hi_1 d_F_ofResolvent_39 ?_
  refine lv_istore (lv' := [(7, .int (C_pivot x1.toNatClampNeg)), (5, .long (F_row (C_right x1.toNatClampNeg).toNatClampNeg)), (3, .long (F_row (C_left x1.toNatClampNeg).toNatClampNeg)), (0, .ref (ad 15)), (1, .int x1), (2, .int x2)]) hx hb d_F_ofResolvent_40 hl (by decide) rfl (fun ls hl => ?_)
  refine lv_aload_n hx hb d_F_ofResolvent_42 rfl (lv_at hl 3 rfl) ?_
  refine x_get C0 hw 15 rfl rfl i_F 4 (by decide) wm_235 rfl rfl d_F_ofResolvent_43 ?_
  refine lv_iload hx hb d_F_ofResolvent_46 (lv_at hl 0 rfl) ?_
  refine x_callSNi C0 hw hl (c_B_bitOf h) g_B_bitOf wm_598 wm_456 (As := [.int (C_pivot x1.toNatClampNeg)]) (rest := [.int F_labelledA]) rfl rfl (Nat.le_of_ble_eq_true rfl) ⟨rfl, rfl⟩ ⟨Nat.le_of_ble_eq_true rfl, Nat.le_of_ble_eq_true rfl⟩ ⟨Nat.le_of_ble_eq_true rfl, Nat.le_of_ble_eq_true rfl⟩ d_F_ofResolvent_48 (fun r_4 u H locs h hw => ?_)
  refine lv_iand hx hb d_F_ofResolvent_51 ?_
  refine lv_if_eq (tgt := 60) hx hb d_F_ofResolvent_52 (by decide) (fun c_5 => ?_) (fun c_5 => ?_)
  · have h := h.1 c_5
    refine lv_aload_n hx hb d_F_ofResolvent_60 rfl (lv_at hl 3 rfl) ?_
    refine x_get C0 hw 15 rfl rfl i_F 5 (by decide) wm_236 rfl rfl d_F_ofResolvent_61 ?_
    refine lv_iload hx hb d_F_ofResolvent_64 (lv_at hl 0 rfl) ?_
    refine x_callSNi C0 hw hl (c_B_bitOf h) g_B_bitOf wm_598 wm_456 (As := [.int (C_pivot x1.toNatClampNeg)]) (rest := [.int F_labelledB]) rfl rfl (Nat.le_of_ble_eq_true rfl) ⟨rfl, rfl⟩ ⟨Nat.le_of_ble_eq_true rfl, Nat.le_of_ble_eq_true rfl⟩ ⟨Nat.le_of_ble_eq_true rfl, Nat.le_of_ble_eq_true rfl⟩ d_F_ofResolvent_66 (fun r_6 u H locs h hw => ?_)
    refine lv_iand hx hb d_F_ofResolvent_69 ?_
    refine lv_if_eq (tgt := 78) hx hb d_F_ofResolvent_70 (by decide) (fun c_7 => ?_) (fun c_7 => ?_)
    · have h := h.1 c_7
      refine lv_iload hx hb d_F_ofResolvent_78 (lv_at hl 0 rfl) ?_
      refine lv_iload_n hx hb d_F_ofResolvent_80 rfl (lv_at hl 5 rfl) ?_
      refine x_callSl C0 hw hl (c_U_ofVariable h) g_U_ofVariable wm_599 wm_600 (As := [.int (C_pivot x1.toNatClampNeg), .int x2]) (rest := []) rfl rfl (Nat.le_of_ble_eq_true rfl) ⟨rfl, rfl⟩ ⟨Nat.le_of_ble_eq_true rfl, Nat.le_of_ble_eq_true rfl⟩ ⟨Nat.le_of_ble_eq_true rfl, Nat.le_of_ble_eq_true rfl⟩ d_F_ofResolvent_81 (fun r_8 u H locs h hw => ?_)
      refine lv_lstore (lv' := [(8, .long r_8), (7, .int (C_pivot x1.toNatClampNeg)), (5, .long (F_row (C_right x1.toNatClampNeg).toNatClampNeg)), (3, .long (F_row (C_left x1.toNatClampNeg).toNatClampNeg)), (0, .ref (ad 15)), (1, .int x1), (2, .int x2)]) hx hb d_F_ofResolvent_84 hl (by decide) rfl (fun ls hl => ?_)
      refine lv_lload hx hb d_F_ofResolvent_86 (lv_at hl 0 rfl) ?_
      refine lv_lload_n hx hb d_F_ofResolvent_88 rfl (lv_at hl 3 rfl) ?_
      refine lv_lor hx hb d_F_ofResolvent_89 ?_
      refine lv_lload hx hb d_F_ofResolvent_90 (lv_at hl 0 rfl) ?_
      refine x_ldc2 C0 wm_605 d_F_ofResolvent_92 ?_
      refine lv_lxor hx hb d_F_ofResolvent_95 ?_
      refine lv_lload hx hb d_F_ofResolvent_96 (lv_at hl 2 rfl) ?_
      refine lv_lor hx hb d_F_ofResolvent_98 ?_
      refine lv_land hx hb d_F_ofResolvent_99 ?_
      exact x_lret C0 hw () h rfl d_F_ofResolvent_100
    · have h := h.2 c_7
      refine lv_lload_n hx hb d_F_ofResolvent_73 rfl (lv_at hl 2 rfl) ?_
      refine lv_lload hx hb d_F_ofResolvent_74 (lv_at hl 1 rfl) ?_
      refine lv_land hx hb d_F_ofResolvent_76 ?_
      exact x_lret C0 hw () h rfl d_F_ofResolvent_77
  · have h := h.2 c_5
    refine lv_lload_n hx hb d_F_ofResolvent_55 rfl (lv_at hl 2 rfl) ?_
    refine lv_lload hx hb d_F_ofResolvent_56 (lv_at hl 1 rfl) ?_
    refine lv_lor hx hb d_F_ofResolvent_58 ?_
    exact x_lret C0 hw () h rfl d_F_ofResolvent_59
theorem g_F_workOut : GY y_F_workOut b_F_workOut 3 none 1 := ⟨wm_593, wm_59, by decide +kernel, by decide +kernel, by decide +kernel⟩
def p_F_workOut_L2 (C_empty : Int32) (C_block : Nat → Int32) (C_left : Nat → Int32) (C_right : Nat → Int32) (C_pivot : Nat → Int32) (C_positive : Nat → Int32) (C_negative : Nat → Int32) (C_needed : Nat → Int32) (F_cut : Int32) (F_labelledA : Int32) (F_labelledB : Int32) (x1 : Int32) (k : (Nat → Int64) → Prop) : Nat → Int32 → (Nat → Int64) → Prop
  | 0, _, _ => False
  | n + 1, x2, F_row =>
    ((C_empty < x2 → (k F_row)) ∧ (¬ C_empty < x2 → (vp_in x2 201 ∧ (((C_needed x2.toNatClampNeg) = 0 → (p_F_workOut_L2 C_empty C_block C_left C_right C_pivot C_positive C_negative C_needed F_cut F_labelledA F_labelledB x1 k n (x2 + 1) F_row)) ∧ (¬ (C_needed x2.toNatClampNeg) = 0 → ((¬ (C_block x2.toNatClampNeg) = 0 → (p_F_ofGiven C_block C_positive C_negative F_cut F_labelledA F_labelledB x2 x1 (fun (r_5 : Int64) => (p_F_workOut_L2 C_empty C_block C_left C_right C_pivot C_positive C_negative C_needed F_cut F_labelledA F_labelledB x1 k n (x2 + 1) (vp_updL F_row x2.toNatClampNeg r_5))))) ∧ ((C_block x2.toNatClampNeg) = 0 → (p_F_ofResolvent C_left C_right C_pivot F_labelledA F_labelledB F_row x2 x1 (fun (r_6 : Int64) => (p_F_workOut_L2 C_empty C_block C_left C_right C_pivot C_positive C_negative C_needed F_cut F_labelledA F_labelledB x1 k n (x2 + 1) (vp_updL F_row x2.toNatClampNeg r_6)))))))))))
def p_F_workOut (C_empty : Int32) (C_block : Nat → Int32) (C_left : Nat → Int32) (C_right : Nat → Int32) (C_pivot : Nat → Int32) (C_positive : Nat → Int32) (C_negative : Nat → Int32) (C_needed : Nat → Int32) (F_cut : Int32) (F_labelledA : Int32) (F_labelledB : Int32) (F_row : Nat → Int64) (x1 : Int32) (k : (Nat → Int64) → Prop) : Prop :=
  (∃ j_7, p_F_workOut_L2 C_empty C_block C_left C_right C_pivot C_positive C_negative C_needed F_cut F_labelledA F_labelledB x1 k j_7 (1 : Int32) F_row)
abbrev rm_F_workOut : Room := { frames := 3, cells := 0, slots := 0, locals := 70 }
set_option maxHeartbeats 4000000 in
set_option maxRecDepth 100000 in
theorem b_F_workOut_L2 {p : Program} {l : Launch} {e : Env} {s : State} {m : MethodId} {args : Array Value} {below : List Frame} {meth : Method} {c : Code} {D : va_G} {ca : Nat → ClassId} {tp : Nat} {A : Nat → Prop} {ad : Nat → Nat} {T_length : Int32} {T_bytes : Nat → Int32} {C_size : Int32} {C_given : Int32} {C_empty : Int32} {C_drafted : Int32} {C_draftedGiven : Int32} {C_block : Nat → Int32} {C_left : Nat → Int32} {C_right : Nat → Int32} {C_pivot : Nat → Int32} {C_positive : Nat → Int32} {C_negative : Nat → Int32} {C_live : Nat → Int32} {C_needed : Nat → Int32} {R_kind : Int32} {R_place : Int32} {R_at : Int32} {R_token : Int32} {R_tokenPlace : Int32} {R_number : Int32} {R_state : Int32} {R_block : Int32} {R_positive : Int32} {R_negative : Int32} {R_left : Int32} {R_right : Int32} {R_pivot : Int32} {L_of : Nat → Int32} {F_cut : Int32} {F_labelledA : Int32} {F_labelledB : Int32} {A_root : Int32} {A_words : Nat → Int64} {A_known : Nat → Int32} {G_size : Int32} {G_variable : Nat → Int32} {G_low : Nat → Int32} {G_high : Nat → Int32} {G_numberOf : Nat → Int32} {G_nodeOf : Nat → Int32} {G_sides : Nat → Int32} {G_waiting : Nat → Int32} {B_table : Nat → Int64} {B_nextTable : Nat → Int64} {x1 : Int32} {k : (Nat → Int64) → Prop}  (C0 : CX p s m args meth c b_F_workOut 3 none R_F "workOut" D ca tp A) :
    ∀ (n : Nat) (x2 : Int32) (F_row : Nat → Int64) {H : Heap} {locs : List Loc} {ls : Array Slot}, p_F_workOut_L2 C_empty C_block C_left C_right C_pivot C_positive C_negative C_needed F_cut F_labelledA F_labelledB x1 k n x2 F_row → WH D A s (WB ad ca T_length T_bytes C_size C_given C_empty C_drafted C_draftedGiven C_block C_left C_right C_pivot C_positive C_negative C_live C_needed R_kind R_place R_at R_token R_tokenPlace R_number R_state R_block R_positive R_negative R_left R_right R_pivot L_of F_cut F_labelledA F_labelledB F_row A_root A_words A_known G_size G_variable G_low G_high G_numberOf G_nodeOf G_sides G_waiting B_table B_nextTable) H locs → lv_has ls 3 [(0, .ref (ad 15)), (1, .int x1), (2, .int x2)] →
      W p l e rm_F_workOut s m args below meth c H locs 0 0 (QV D A below args s (fun (u : (Nat → Int64)) => k u) (fun (u : (Nat → Int64)) => WB ad ca T_length T_bytes C_size C_given C_empty C_drafted C_draftedGiven C_block C_left C_right C_pivot C_positive C_negative C_live C_needed R_kind R_place R_at R_token R_tokenPlace R_number R_state R_block R_positive R_negative R_left R_right R_pivot L_of F_cut F_labelledA F_labelledB u A_root A_words A_known G_size G_variable G_low G_high G_numberOf G_nodeOf G_sides G_waiting B_table B_nextTable) 0 0) (F0 m 2 ls []) := by
  have hx := C0.1
  have hb := C0.2.1
  intro n
  induction n with
  | zero =>
    intro x2 F_row H locs ls h
    exact False.elim h
  | succ n ih =>
    intro x2 F_row H locs ls h hw hl
    unfold p_F_workOut_L2 at h
    refine lv_iload_n hx hb d_F_workOut_2 rfl (lv_at hl 2 rfl) ?_
    refine lv_aload_n hx hb d_F_workOut_3 rfl (lv_at hl 0 rfl) ?_
    refine x_get C0 hw 15 rfl rfl i_F 0 (by decide) wm_230 rfl rfl d_F_workOut_4 ?_
    refine x_getN C0 hw 3 rfl rfl i_C 10 (by decide) wm_123 rfl rfl d_F_workOut_7 ?_
    refine lv_icmp_gt (tgt := 64) hx hb d_F_workOut_10 (by decide) (fun c_1 => ?_) (fun c_1 => ?_)
    · have h := h.1 c_1
      exact x_vret C0 hw F_row h rfl d_F_workOut_64
    · have h := h.2 c_1
      refine lv_aload_n hx hb d_F_workOut_13 rfl (lv_at hl 0 rfl) ?_
      refine x_get C0 hw 15 rfl rfl i_F 0 (by decide) wm_230 rfl rfl d_F_workOut_14 ?_
      refine x_getN C0 hw 3 rfl rfl i_C 7 (by decide) wm_116 rfl rfl d_F_workOut_17 ?_
      refine lv_iload_n hx hb d_F_workOut_20 rfl (lv_at hl 2 rfl) ?_
      obtain ⟨hi_2, h⟩ := h
      refine x_zald C0 hw 11 rfl hi_2 d_F_workOut_21 ?_
      refine lv_if_eq (tgt := 58) hx hb d_F_workOut_22 (by decide) (fun c_3 => ?_) (fun c_3 => ?_)
      · have h := h.1 c_3
        refine lv_iinc (v := (x2 + 1)) (lv' := [(2, .int (x2 + 1)), (0, .ref (ad 15)), (1, .int x1)]) hx hb d_F_workOut_58 hl (k := 2) rfl rfl (by decide) rfl (fun ls hl => ?_)
        refine lv_goto (tgt := 2) hx hb d_F_workOut_61 (by decide) ?_
        exact ih _ _ h hw (lv_sub hl [1, 2, 0] rfl)
      · have h := h.2 c_3
        refine lv_aload_n hx hb d_F_workOut_25 rfl (lv_at hl 0 rfl) ?_
        refine x_get C0 hw 15 rfl rfl i_F 2 (by decide) wm_232 rfl rfl d_F_workOut_26 ?_
        refine lv_iload_n hx hb d_F_workOut_29 rfl (lv_at hl 2 rfl) ?_
        refine lv_aload_n hx hb d_F_workOut_30 rfl (lv_at hl 0 rfl) ?_
        refine x_get C0 hw 15 rfl rfl i_F 0 (by decide) wm_230 rfl rfl d_F_workOut_31 ?_
        refine x_getN C0 hw 3 rfl rfl i_C 0 (by decide) wm_96 rfl rfl d_F_workOut_34 ?_
        refine lv_iload_n hx hb d_F_workOut_37 rfl (lv_at hl 2 rfl) ?_
        refine x_iald C0 hw 4 rfl hi_2 d_F_workOut_38 ?_
        refine lv_if_ne (tgt := 51) hx hb d_F_workOut_39 (by decide) (fun c_4 => ?_) (fun c_4 => ?_)
        · have h := h.1 c_4
          refine lv_aload_n hx hb d_F_workOut_51 rfl (lv_at hl 0 rfl) ?_
          refine lv_iload_n hx hb d_F_workOut_52 rfl (lv_at hl 2 rfl) ?_
          refine lv_iload_n hx hb d_F_workOut_53 rfl (lv_at hl 1 rfl) ?_
          refine x_callVl C0 hw hl (c_F_ofGiven h) g_F_ofGiven wm_606 ⟨wm_27, wm_608⟩ 15 rfl rfl rfl (As := [.int x2, .int x1]) (rest := [.int x2, .ref (ad 16)]) rfl rfl (Nat.le_of_ble_eq_true rfl) ⟨rfl, rfl⟩ ⟨Nat.le_of_ble_eq_true rfl, Nat.le_of_ble_eq_true rfl⟩ ⟨Nat.le_of_ble_eq_true rfl, Nat.le_of_ble_eq_true rfl⟩ d_F_workOut_54 (fun r_5 u H locs h hw => ?_)
          refine x_last C0 hw 16 rfl hi_2 (ws' := WB ad ca T_length T_bytes C_size C_given C_empty C_drafted C_draftedGiven C_block C_left C_right C_pivot C_positive C_negative C_live C_needed R_kind R_place R_at R_token R_tokenPlace R_number R_state R_block R_positive R_negative R_left R_right R_pivot L_of F_cut F_labelledA F_labelledB (vp_updL F_row x2.toNatClampNeg r_5) A_root A_words A_known G_size G_variable G_low G_high G_numberOf G_nodeOf G_sides G_waiting B_table B_nextTable) rfl d_F_workOut_57 (fun H locs hw => ?_)
          refine lv_iinc (v := (x2 + 1)) (lv' := [(2, .int (x2 + 1)), (0, .ref (ad 15)), (1, .int x1)]) hx hb d_F_workOut_58 hl (k := 2) rfl rfl (by decide) rfl (fun ls hl => ?_)
          refine lv_goto (tgt := 2) hx hb d_F_workOut_61 (by decide) ?_
          exact ih _ _ h hw (lv_sub hl [1, 2, 0] rfl)
        · have h := h.2 c_4
          refine lv_aload_n hx hb d_F_workOut_42 rfl (lv_at hl 0 rfl) ?_
          refine lv_iload_n hx hb d_F_workOut_43 rfl (lv_at hl 2 rfl) ?_
          refine lv_iload_n hx hb d_F_workOut_44 rfl (lv_at hl 1 rfl) ?_
          refine x_callVl C0 hw hl (c_F_ofResolvent h) g_F_ofResolvent wm_594 ⟨wm_26, wm_596⟩ 15 rfl rfl rfl (As := [.int x2, .int x1]) (rest := [.int x2, .ref (ad 16)]) rfl rfl (Nat.le_of_ble_eq_true rfl) ⟨rfl, rfl⟩ ⟨Nat.le_of_ble_eq_true rfl, Nat.le_of_ble_eq_true rfl⟩ ⟨Nat.le_of_ble_eq_true rfl, Nat.le_of_ble_eq_true rfl⟩ d_F_workOut_45 (fun r_6 u H locs h hw => ?_)
          refine lv_goto (tgt := 57) hx hb d_F_workOut_48 (by decide) ?_
          refine x_last C0 hw 16 rfl hi_2 (ws' := WB ad ca T_length T_bytes C_size C_given C_empty C_drafted C_draftedGiven C_block C_left C_right C_pivot C_positive C_negative C_live C_needed R_kind R_place R_at R_token R_tokenPlace R_number R_state R_block R_positive R_negative R_left R_right R_pivot L_of F_cut F_labelledA F_labelledB (vp_updL F_row x2.toNatClampNeg r_6) A_root A_words A_known G_size G_variable G_low G_high G_numberOf G_nodeOf G_sides G_waiting B_table B_nextTable) rfl d_F_workOut_57 (fun H locs hw => ?_)
          refine lv_iinc (v := (x2 + 1)) (lv' := [(2, .int (x2 + 1)), (0, .ref (ad 15)), (1, .int x1)]) hx hb d_F_workOut_58 hl (k := 2) rfl rfl (by decide) rfl (fun ls hl => ?_)
          refine lv_goto (tgt := 2) hx hb d_F_workOut_61 (by decide) ?_
          exact ih _ _ h hw (lv_sub hl [1, 2, 0] rfl)
set_option maxHeartbeats 4000000 in
set_option maxRecDepth 100000 in
theorem c_F_workOut {l : Launch} {D : va_G} {ca : Nat → ClassId} {tp : Nat} {ad : Nat → Nat} {T_length : Int32} {T_bytes : Nat → Int32} {C_size : Int32} {C_given : Int32} {C_empty : Int32} {C_drafted : Int32} {C_draftedGiven : Int32} {C_block : Nat → Int32} {C_left : Nat → Int32} {C_right : Nat → Int32} {C_pivot : Nat → Int32} {C_positive : Nat → Int32} {C_negative : Nat → Int32} {C_live : Nat → Int32} {C_needed : Nat → Int32} {R_kind : Int32} {R_place : Int32} {R_at : Int32} {R_token : Int32} {R_tokenPlace : Int32} {R_number : Int32} {R_state : Int32} {R_block : Int32} {R_positive : Int32} {R_negative : Int32} {R_left : Int32} {R_right : Int32} {R_pivot : Int32} {L_of : Nat → Int32} {F_cut : Int32} {F_labelledA : Int32} {F_labelledB : Int32} {F_row : Nat → Int64} {A_root : Int32} {A_words : Nat → Int64} {A_known : Nat → Int32} {G_size : Int32} {G_variable : Nat → Int32} {G_low : Nat → Int32} {G_high : Nat → Int32} {G_numberOf : Nat → Int32} {G_nodeOf : Nat → Int32} {G_sides : Nat → Int32} {G_waiting : Nat → Int32} {B_table : Nat → Int64} {B_nextTable : Nat → Int64} {x1 : Int32} {k : (Nat → Int64) → Prop} (h : p_F_workOut C_empty C_block C_left C_right C_pivot C_positive C_negative C_needed F_cut F_labelledA F_labelledB F_row x1 k) :
    MTv l y_F_workOut b_F_workOut 3 none rm_F_workOut D ca tp [.ref (ad 15), .int x1] (WB ad ca T_length T_bytes C_size C_given C_empty C_drafted C_draftedGiven C_block C_left C_right C_pivot C_positive C_negative C_live C_needed R_kind R_place R_at R_token R_tokenPlace R_number R_state R_block R_positive R_negative R_left R_right R_pivot L_of F_cut F_labelledA F_labelledB F_row A_root A_words A_known G_size G_variable G_low G_high G_numberOf G_nodeOf G_sides G_waiting B_table B_nextTable)
      (fun (u : (Nat → Int64)) => k u)
      (fun (u : (Nat → Int64)) => WB ad ca T_length T_bytes C_size C_given C_empty C_drafted C_draftedGiven C_block C_left C_right C_pivot C_positive C_negative C_live C_needed R_kind R_place R_at R_token R_tokenPlace R_number R_state R_block R_positive R_negative R_left R_right R_pivot L_of F_cut F_labelledA F_labelledB u A_root A_words A_known G_size G_variable G_low G_high G_numberOf G_nodeOf G_sides G_waiting B_table B_nextTable) 0 0 := by
  refine x_entryv (own := R_F) (nm := "workOut") (by decide) rfl rfl (Nat.le_of_ble_eq_true rfl) (fun p e s m below meth c A ls C0 hw hl => ?_)
  have hx := C0.1
  have hb := C0.2.1
  have hl : lv_has ls 3 [(0, .ref (ad 15)), (1, .int x1)] := hl
  unfold p_F_workOut at h
  refine lv_iconst (v := 1) hx hb d_F_workOut_0 (by decide) ?_
  refine lv_istore_n (lv' := [(2, .int (1 : Int32)), (0, .ref (ad 15)), (1, .int x1)]) hx hb d_F_workOut_1 rfl hl (by decide) rfl (fun ls hl => ?_)
  obtain ⟨j_7, h⟩ := h
  refine b_F_workOut_L2 C0 _ _ _ h hw (lv_sub hl [1, 2, 0] rfl)
theorem g_F_interpolant : GY y_F_interpolant b_F_interpolant 5 none 3 := ⟨wm_681, wm_59, by decide +kernel, by decide +kernel, by decide +kernel⟩
def p_F_interpolantT_L9 (C_empty : Int32) (C_block : Nat → Int32) (C_left : Nat → Int32) (C_right : Nat → Int32) (C_pivot : Nat → Int32) (C_positive : Nat → Int32) (C_negative : Nat → Int32) (C_needed : Nat → Int32) (F_cut : Int32) (F_labelledA : Int32) (F_labelledB : Int32) (k : Int32 → Int32 → Int32 → (Nat → Int64) → (Nat → Int64) → Prop) : Nat → Int32 → (Nat → Int64) → (Nat → Int64) → Prop
  | 0, _, _, _ => False
  | n + 1, x4, F_row, B_table =>
    (((16 : Int32) ≤ x4 → (k F_cut F_labelledA F_labelledB F_row B_table)) ∧ (¬ (16 : Int32) ≤ x4 → (((16 : Int32) ≤ x4 → (k F_cut F_labelledA F_labelledB F_row B_table)) ∧ (¬ (16 : Int32) ≤ x4 → (p_F_workOut C_empty C_block C_left C_right C_pivot C_positive C_negative C_needed F_cut F_labelledA F_labelledB F_row x4 (fun (F_row_7 : Nat → Int64) => (vp_in C_empty 201 ∧ (vp_in x4 16 ∧ (p_F_interpolantT_L9 C_empty C_block C_left C_right C_pivot C_positive C_negative C_needed F_cut F_labelledA F_labelledB k n (x4 + 1) F_row_7 (vp_updL B_table x4.toNatClampNeg (F_row_7 C_empty.toNatClampNeg)))))))))))
def p_F_interpolantT (C_size : Int32) (C_empty : Int32) (C_block : Nat → Int32) (C_left : Nat → Int32) (C_right : Nat → Int32) (C_pivot : Nat → Int32) (C_positive : Nat → Int32) (C_negative : Nat → Int32) (C_needed : Nat → Int32) (L_of : Nat → Int32) (F_row : Nat → Int64) (B_table : Nat → Int64) (x1 : Int32) (x2 : Int32) (k : Int32 → Int32 → Int32 → (Nat → Int64) → (Nat → Int64) → Prop) : Prop :=
  (p_F_choose C_size C_block C_positive C_negative L_of x1 x2 (fun (F_cut_1 : Int32) (F_labelledA_2 : Int32) (F_labelledB_3 : Int32) => (∃ j_11, p_F_interpolantT_L9 C_empty C_block C_left C_right C_pivot C_positive C_negative C_needed F_cut_1 F_labelledA_2 F_labelledB_3 k j_11 (0 : Int32) F_row B_table)))
abbrev rm_F_interpolantT : Room := { frames := 4, cells := 0, slots := 0, locals := 92 }
set_option maxHeartbeats 4000000 in
set_option maxRecDepth 100000 in
theorem b_F_interpolantT_L9 {p : Program} {l : Launch} {e : Env} {s : State} {m : MethodId} {args : Array Value} {below : List Frame} {meth : Method} {c : Code} {D : va_G} {ca : Nat → ClassId} {tp : Nat} {A : Nat → Prop} {ad : Nat → Nat} {T_length : Int32} {T_bytes : Nat → Int32} {C_size : Int32} {C_given : Int32} {C_empty : Int32} {C_drafted : Int32} {C_draftedGiven : Int32} {C_block : Nat → Int32} {C_left : Nat → Int32} {C_right : Nat → Int32} {C_pivot : Nat → Int32} {C_positive : Nat → Int32} {C_negative : Nat → Int32} {C_live : Nat → Int32} {C_needed : Nat → Int32} {R_kind : Int32} {R_place : Int32} {R_at : Int32} {R_token : Int32} {R_tokenPlace : Int32} {R_number : Int32} {R_state : Int32} {R_block : Int32} {R_positive : Int32} {R_negative : Int32} {R_left : Int32} {R_right : Int32} {R_pivot : Int32} {L_of : Nat → Int32} {F_cut : Int32} {F_labelledA : Int32} {F_labelledB : Int32} {A_root : Int32} {A_words : Nat → Int64} {A_known : Nat → Int32} {G_size : Int32} {G_variable : Nat → Int32} {G_low : Nat → Int32} {G_high : Nat → Int32} {G_numberOf : Nat → Int32} {G_nodeOf : Nat → Int32} {G_sides : Nat → Int32} {G_waiting : Nat → Int32} {B_nextTable : Nat → Int64}  {k : Int32 → Int32 → Int32 → (Nat → Int64) → (Nat → Int64) → Prop}  (C0 : CX p s m args meth c b_F_interpolant 5 none R_F "interpolant" D ca tp A) :
    ∀ (n : Nat) (x4 : Int32) (F_row : Nat → Int64) (B_table : Nat → Int64) {H : Heap} {locs : List Loc} {ls : Array Slot}, p_F_interpolantT_L9 C_empty C_block C_left C_right C_pivot C_positive C_negative C_needed F_cut F_labelledA F_labelledB k n x4 F_row B_table → WH D A s (WB ad ca T_length T_bytes C_size C_given C_empty C_drafted C_draftedGiven C_block C_left C_right C_pivot C_positive C_negative C_live C_needed R_kind R_place R_at R_token R_tokenPlace R_number R_state R_block R_positive R_negative R_left R_right R_pivot L_of F_cut F_labelledA F_labelledB F_row A_root A_words A_known G_size G_variable G_low G_high G_numberOf G_nodeOf G_sides G_waiting B_table B_nextTable) H locs → lv_has ls 5 [(0, .ref (ad 15)), (3, .ref (ad 28)), (4, .int x4)] →
      W p l e rm_F_interpolantT s m args below meth c H locs 0 0 (QV D A below args s (fun (u : Int32 × Int32 × Int32 × (Nat → Int64) × (Nat → Int64)) => k u.1 u.2.1 u.2.2.1 u.2.2.2.1 u.2.2.2.2) (fun (u : Int32 × Int32 × Int32 × (Nat → Int64) × (Nat → Int64)) => WB ad ca T_length T_bytes C_size C_given C_empty C_drafted C_draftedGiven C_block C_left C_right C_pivot C_positive C_negative C_live C_needed R_kind R_place R_at R_token R_tokenPlace R_number R_state R_block R_positive R_negative R_left R_right R_pivot L_of u.1 u.2.1 u.2.2.1 u.2.2.2.1 A_root A_words A_known G_size G_variable G_low G_high G_numberOf G_nodeOf G_sides G_waiting u.2.2.2.2 B_nextTable) 0 0) (F0 m 9 ls []) := by
  have hx := C0.1
  have hb := C0.2.1
  intro n
  induction n with
  | zero =>
    intro x4 F_row B_table H locs ls h
    exact False.elim h
  | succ n ih =>
    intro x4 F_row B_table H locs ls h hw hl
    unfold p_F_interpolantT_L9 at h
    refine lv_iload hx hb d_F_interpolant_9 (lv_at hl 2 rfl) ?_
    refine lv_bipush (v := 16) hx hb d_F_interpolant_11 (by decide) ?_
    refine lv_icmp_ge (tgt := 51) hx hb d_F_interpolant_13 (by decide) (fun c_5 => ?_) (fun c_5 => ?_)
    · have h := h.1 c_5
      exact x_vret C0 hw (F_cut, F_labelledA, F_labelledB, F_row, B_table) h rfl d_F_interpolant_51
    · have h := h.2 c_5
      refine lv_iload hx hb d_F_interpolant_16 (lv_at hl 2 rfl) ?_
      refine lv_aload_n hx hb d_F_interpolant_18 rfl (lv_at hl 1 rfl) ?_
      refine x_alen C0 hw 28 1 rfl rfl (v := 16) rfl d_F_interpolant_19 ?_
      refine lv_icmp_ge (tgt := 51) hx hb d_F_interpolant_20 (by decide) (fun c_6 => ?_) (fun c_6 => ?_)
      · have h := h.1 c_6
        exact x_vret C0 hw (F_cut, F_labelledA, F_labelledB, F_row, B_table) h rfl d_F_interpolant_51
      · have h := h.2 c_6
        refine lv_aload_n hx hb d_F_interpolant_23 rfl (lv_at hl 0 rfl) ?_
        refine lv_iload hx hb d_F_interpolant_24 (lv_at hl 2 rfl) ?_
        refine x_callVv C0 hw hl (c_F_workOut h) g_F_workOut wm_683 ⟨wm_592, wm_591⟩ 15 rfl rfl rfl (As := [.int x4]) (rest := []) rfl rfl (Nat.le_of_ble_eq_true rfl) ⟨rfl, rfl⟩ ⟨Nat.le_of_ble_eq_true rfl, Nat.le_of_ble_eq_true rfl⟩ ⟨Nat.le_of_ble_eq_true rfl, Nat.le_of_ble_eq_true rfl⟩ d_F_interpolant_26 (fun u H locs h hw => ?_)
        obtain ⟨F_row_7, rfl⟩ : ∃ z, z = u := ⟨_, rfl⟩
        refine lv_aload_n hx hb d_F_interpolant_29 rfl (lv_at hl 1 rfl) ?_
        refine lv_iload hx hb d_F_interpolant_30 (lv_at hl 2 rfl) ?_
        refine lv_aload_n hx hb d_F_interpolant_32 rfl (lv_at hl 0 rfl) ?_
        refine x_get C0 hw 15 rfl rfl i_F 2 (by decide) wm_232 rfl rfl d_F_interpolant_33 ?_
        refine lv_aload_n hx hb d_F_interpolant_36 rfl (lv_at hl 0 rfl) ?_
        refine x_get C0 hw 15 rfl rfl i_F 0 (by decide) wm_230 rfl rfl d_F_interpolant_37 ?_
        refine x_getN C0 hw 3 rfl rfl i_C 10 (by decide) wm_123 rfl rfl d_F_interpolant_40 ?_
        obtain ⟨hi_9, h⟩ := h
        refine x_lald C0 hw 16 rfl hi_9 d_F_interpolant_43 ?_
        obtain ⟨hi_10, h⟩ := h
        refine x_last C0 hw 28 rfl hi_10 (ws' := WB ad ca T_length T_bytes C_size C_given C_empty C_drafted C_draftedGiven C_block C_left C_right C_pivot C_positive C_negative C_live C_needed R_kind R_place R_at R_token R_tokenPlace R_number R_state R_block R_positive R_negative R_left R_right R_pivot L_of F_cut F_labelledA F_labelledB F_row_7 A_root A_words A_known G_size G_variable G_low G_high G_numberOf G_nodeOf G_sides G_waiting (vp_updL B_table x4.toNatClampNeg (F_row_7 C_empty.toNatClampNeg)) B_nextTable) rfl d_F_interpolant_44 (fun H locs hw => ?_)
        refine lv_iinc (v := (x4 + 1)) (lv' := [(4, .int (x4 + 1)), (0, .ref (ad 15)), (3, .ref (ad 28))]) hx hb d_F_interpolant_45 hl (k := 2) rfl rfl (by decide) rfl (fun ls hl => ?_)
        refine lv_goto (tgt := 9) hx hb d_F_interpolant_48 (by decide) ?_
        exact ih _ _ _ h hw (lv_sub hl [1, 2, 0] rfl)
set_option maxHeartbeats 4000000 in
set_option maxRecDepth 100000 in
theorem c_F_interpolantT {l : Launch} {D : va_G} {ca : Nat → ClassId} {tp : Nat} {ad : Nat → Nat} {T_length : Int32} {T_bytes : Nat → Int32} {C_size : Int32} {C_given : Int32} {C_empty : Int32} {C_drafted : Int32} {C_draftedGiven : Int32} {C_block : Nat → Int32} {C_left : Nat → Int32} {C_right : Nat → Int32} {C_pivot : Nat → Int32} {C_positive : Nat → Int32} {C_negative : Nat → Int32} {C_live : Nat → Int32} {C_needed : Nat → Int32} {R_kind : Int32} {R_place : Int32} {R_at : Int32} {R_token : Int32} {R_tokenPlace : Int32} {R_number : Int32} {R_state : Int32} {R_block : Int32} {R_positive : Int32} {R_negative : Int32} {R_left : Int32} {R_right : Int32} {R_pivot : Int32} {L_of : Nat → Int32} {F_cut : Int32} {F_labelledA : Int32} {F_labelledB : Int32} {F_row : Nat → Int64} {A_root : Int32} {A_words : Nat → Int64} {A_known : Nat → Int32} {G_size : Int32} {G_variable : Nat → Int32} {G_low : Nat → Int32} {G_high : Nat → Int32} {G_numberOf : Nat → Int32} {G_nodeOf : Nat → Int32} {G_sides : Nat → Int32} {G_waiting : Nat → Int32} {B_table : Nat → Int64} {B_nextTable : Nat → Int64} {x1 : Int32} {x2 : Int32} {k : Int32 → Int32 → Int32 → (Nat → Int64) → (Nat → Int64) → Prop} (h : p_F_interpolantT C_size C_empty C_block C_left C_right C_pivot C_positive C_negative C_needed L_of F_row B_table x1 x2 k) :
    MTv l y_F_interpolant b_F_interpolant 5 none rm_F_interpolantT D ca tp [.ref (ad 15), .int x1, .int x2, .ref (ad 28)] (WB ad ca T_length T_bytes C_size C_given C_empty C_drafted C_draftedGiven C_block C_left C_right C_pivot C_positive C_negative C_live C_needed R_kind R_place R_at R_token R_tokenPlace R_number R_state R_block R_positive R_negative R_left R_right R_pivot L_of F_cut F_labelledA F_labelledB F_row A_root A_words A_known G_size G_variable G_low G_high G_numberOf G_nodeOf G_sides G_waiting B_table B_nextTable)
      (fun (u : Int32 × Int32 × Int32 × (Nat → Int64) × (Nat → Int64)) => k u.1 u.2.1 u.2.2.1 u.2.2.2.1 u.2.2.2.2)
      (fun (u : Int32 × Int32 × Int32 × (Nat → Int64) × (Nat → Int64)) => WB ad ca T_length T_bytes C_size C_given C_empty C_drafted C_draftedGiven C_block C_left C_right C_pivot C_positive C_negative C_live C_needed R_kind R_place R_at R_token R_tokenPlace R_number R_state R_block R_positive R_negative R_left R_right R_pivot L_of u.1 u.2.1 u.2.2.1 u.2.2.2.1 A_root A_words A_known G_size G_variable G_low G_high G_numberOf G_nodeOf G_sides G_waiting u.2.2.2.2 B_nextTable) 0 0 := by
  refine x_entryv (own := R_F) (nm := "interpolant") (by decide) rfl rfl (Nat.le_of_ble_eq_true rfl) (fun p e s m below meth c A ls C0 hw hl => ?_)
  have hx := C0.1
  have hb := C0.2.1
  have hl : lv_has ls 5 [(0, .ref (ad 15)), (1, .int x1), (2, .int x2), (3, .ref (ad 28))] := hl
  unfold p_F_interpolantT at h
  refine lv_aload_n hx hb d_F_interpolant_0 rfl (lv_at hl 0 rfl) ?_
  refine lv_iload_n hx hb d_F_interpolant_1 rfl (lv_at hl 1 rfl) ?_
  refine lv_iload_n hx hb d_F_interpolant_2 rfl (lv_at hl 2 rfl) ?_
  refine x_callVv C0 hw hl (c_F_choose h) g_F_choose wm_682 ⟨wm_574, wm_573⟩ 15 rfl rfl rfl (As := [.int x1, .int x2]) (rest := []) rfl rfl (Nat.le_of_ble_eq_true rfl) ⟨rfl, rfl⟩ ⟨Nat.le_of_ble_eq_true rfl, Nat.le_of_ble_eq_true rfl⟩ ⟨Nat.le_of_ble_eq_true rfl, Nat.le_of_ble_eq_true rfl⟩ d_F_interpolant_3 (fun u H locs h hw => ?_)
  obtain ⟨F_cut_1, F_labelledA_2, F_labelledB_3⟩ := u
  refine lv_iconst (v := 0) hx hb d_F_interpolant_6 (by decide) ?_
  refine lv_istore (lv' := [(4, .int (0 : Int32)), (0, .ref (ad 15)), (1, .int x1), (2, .int x2), (3, .ref (ad 28))]) hx hb d_F_interpolant_7 hl (by decide) rfl (fun ls hl => ?_)
  obtain ⟨j_11, h⟩ := h
  refine b_F_interpolantT_L9 C0 _ _ _ _ h hw (lv_sub hl [1, 4, 0] rfl)
def p_F_interpolantN_L9 (C_empty : Int32) (C_block : Nat → Int32) (C_left : Nat → Int32) (C_right : Nat → Int32) (C_pivot : Nat → Int32) (C_positive : Nat → Int32) (C_negative : Nat → Int32) (C_needed : Nat → Int32) (F_cut : Int32) (F_labelledA : Int32) (F_labelledB : Int32) (k : Int32 → Int32 → Int32 → (Nat → Int64) → (Nat → Int64) → Prop) : Nat → Int32 → (Nat → Int64) → (Nat → Int64) → Prop
  | 0, _, _, _ => False
  | n + 1, x4, F_row, B_nextTable =>
    (((16 : Int32) ≤ x4 → (k F_cut F_labelledA F_labelledB F_row B_nextTable)) ∧ (¬ (16 : Int32) ≤ x4 → (((16 : Int32) ≤ x4 → (k F_cut F_labelledA F_labelledB F_row B_nextTable)) ∧ (¬ (16 : Int32) ≤ x4 → (p_F_workOut C_empty C_block C_left C_right C_pivot C_positive C_negative C_needed F_cut F_labelledA F_labelledB F_row x4 (fun (F_row_7 : Nat → Int64) => (vp_in C_empty 201 ∧ (vp_in x4 16 ∧ (p_F_interpolantN_L9 C_empty C_block C_left C_right C_pivot C_positive C_negative C_needed F_cut F_labelledA F_labelledB k n (x4 + 1) F_row_7 (vp_updL B_nextTable x4.toNatClampNeg (F_row_7 C_empty.toNatClampNeg)))))))))))
def p_F_interpolantN (C_size : Int32) (C_empty : Int32) (C_block : Nat → Int32) (C_left : Nat → Int32) (C_right : Nat → Int32) (C_pivot : Nat → Int32) (C_positive : Nat → Int32) (C_negative : Nat → Int32) (C_needed : Nat → Int32) (L_of : Nat → Int32) (F_row : Nat → Int64) (B_nextTable : Nat → Int64) (x1 : Int32) (x2 : Int32) (k : Int32 → Int32 → Int32 → (Nat → Int64) → (Nat → Int64) → Prop) : Prop :=
  (p_F_choose C_size C_block C_positive C_negative L_of x1 x2 (fun (F_cut_1 : Int32) (F_labelledA_2 : Int32) (F_labelledB_3 : Int32) => (∃ j_11, p_F_interpolantN_L9 C_empty C_block C_left C_right C_pivot C_positive C_negative C_needed F_cut_1 F_labelledA_2 F_labelledB_3 k j_11 (0 : Int32) F_row B_nextTable)))
abbrev rm_F_interpolantN : Room := { frames := 4, cells := 0, slots := 0, locals := 92 }
set_option maxHeartbeats 4000000 in
set_option maxRecDepth 100000 in
theorem b_F_interpolantN_L9 {p : Program} {l : Launch} {e : Env} {s : State} {m : MethodId} {args : Array Value} {below : List Frame} {meth : Method} {c : Code} {D : va_G} {ca : Nat → ClassId} {tp : Nat} {A : Nat → Prop} {ad : Nat → Nat} {T_length : Int32} {T_bytes : Nat → Int32} {C_size : Int32} {C_given : Int32} {C_empty : Int32} {C_drafted : Int32} {C_draftedGiven : Int32} {C_block : Nat → Int32} {C_left : Nat → Int32} {C_right : Nat → Int32} {C_pivot : Nat → Int32} {C_positive : Nat → Int32} {C_negative : Nat → Int32} {C_live : Nat → Int32} {C_needed : Nat → Int32} {R_kind : Int32} {R_place : Int32} {R_at : Int32} {R_token : Int32} {R_tokenPlace : Int32} {R_number : Int32} {R_state : Int32} {R_block : Int32} {R_positive : Int32} {R_negative : Int32} {R_left : Int32} {R_right : Int32} {R_pivot : Int32} {L_of : Nat → Int32} {F_cut : Int32} {F_labelledA : Int32} {F_labelledB : Int32} {A_root : Int32} {A_words : Nat → Int64} {A_known : Nat → Int32} {G_size : Int32} {G_variable : Nat → Int32} {G_low : Nat → Int32} {G_high : Nat → Int32} {G_numberOf : Nat → Int32} {G_nodeOf : Nat → Int32} {G_sides : Nat → Int32} {G_waiting : Nat → Int32} {B_table : Nat → Int64}  {k : Int32 → Int32 → Int32 → (Nat → Int64) → (Nat → Int64) → Prop}  (C0 : CX p s m args meth c b_F_interpolant 5 none R_F "interpolant" D ca tp A) :
    ∀ (n : Nat) (x4 : Int32) (F_row : Nat → Int64) (B_nextTable : Nat → Int64) {H : Heap} {locs : List Loc} {ls : Array Slot}, p_F_interpolantN_L9 C_empty C_block C_left C_right C_pivot C_positive C_negative C_needed F_cut F_labelledA F_labelledB k n x4 F_row B_nextTable → WH D A s (WB ad ca T_length T_bytes C_size C_given C_empty C_drafted C_draftedGiven C_block C_left C_right C_pivot C_positive C_negative C_live C_needed R_kind R_place R_at R_token R_tokenPlace R_number R_state R_block R_positive R_negative R_left R_right R_pivot L_of F_cut F_labelledA F_labelledB F_row A_root A_words A_known G_size G_variable G_low G_high G_numberOf G_nodeOf G_sides G_waiting B_table B_nextTable) H locs → lv_has ls 5 [(0, .ref (ad 15)), (3, .ref (ad 29)), (4, .int x4)] →
      W p l e rm_F_interpolantN s m args below meth c H locs 0 0 (QV D A below args s (fun (u : Int32 × Int32 × Int32 × (Nat → Int64) × (Nat → Int64)) => k u.1 u.2.1 u.2.2.1 u.2.2.2.1 u.2.2.2.2) (fun (u : Int32 × Int32 × Int32 × (Nat → Int64) × (Nat → Int64)) => WB ad ca T_length T_bytes C_size C_given C_empty C_drafted C_draftedGiven C_block C_left C_right C_pivot C_positive C_negative C_live C_needed R_kind R_place R_at R_token R_tokenPlace R_number R_state R_block R_positive R_negative R_left R_right R_pivot L_of u.1 u.2.1 u.2.2.1 u.2.2.2.1 A_root A_words A_known G_size G_variable G_low G_high G_numberOf G_nodeOf G_sides G_waiting B_table u.2.2.2.2) 0 0) (F0 m 9 ls []) := by
  have hx := C0.1
  have hb := C0.2.1
  intro n
  induction n with
  | zero =>
    intro x4 F_row B_nextTable H locs ls h
    exact False.elim h
  | succ n ih =>
    intro x4 F_row B_nextTable H locs ls h hw hl
    unfold p_F_interpolantN_L9 at h
    refine lv_iload hx hb d_F_interpolant_9 (lv_at hl 2 rfl) ?_
    refine lv_bipush (v := 16) hx hb d_F_interpolant_11 (by decide) ?_
    refine lv_icmp_ge (tgt := 51) hx hb d_F_interpolant_13 (by decide) (fun c_5 => ?_) (fun c_5 => ?_)
    · have h := h.1 c_5
      exact x_vret C0 hw (F_cut, F_labelledA, F_labelledB, F_row, B_nextTable) h rfl d_F_interpolant_51
    · have h := h.2 c_5
      refine lv_iload hx hb d_F_interpolant_16 (lv_at hl 2 rfl) ?_
      refine lv_aload_n hx hb d_F_interpolant_18 rfl (lv_at hl 1 rfl) ?_
      refine x_alen C0 hw 29 1 rfl rfl (v := 16) rfl d_F_interpolant_19 ?_
      refine lv_icmp_ge (tgt := 51) hx hb d_F_interpolant_20 (by decide) (fun c_6 => ?_) (fun c_6 => ?_)
      · have h := h.1 c_6
        exact x_vret C0 hw (F_cut, F_labelledA, F_labelledB, F_row, B_nextTable) h rfl d_F_interpolant_51
      · have h := h.2 c_6
        refine lv_aload_n hx hb d_F_interpolant_23 rfl (lv_at hl 0 rfl) ?_
        refine lv_iload hx hb d_F_interpolant_24 (lv_at hl 2 rfl) ?_
        refine x_callVv C0 hw hl (c_F_workOut h) g_F_workOut wm_683 ⟨wm_592, wm_591⟩ 15 rfl rfl rfl (As := [.int x4]) (rest := []) rfl rfl (Nat.le_of_ble_eq_true rfl) ⟨rfl, rfl⟩ ⟨Nat.le_of_ble_eq_true rfl, Nat.le_of_ble_eq_true rfl⟩ ⟨Nat.le_of_ble_eq_true rfl, Nat.le_of_ble_eq_true rfl⟩ d_F_interpolant_26 (fun u H locs h hw => ?_)
        obtain ⟨F_row_7, rfl⟩ : ∃ z, z = u := ⟨_, rfl⟩
        refine lv_aload_n hx hb d_F_interpolant_29 rfl (lv_at hl 1 rfl) ?_
        refine lv_iload hx hb d_F_interpolant_30 (lv_at hl 2 rfl) ?_
        refine lv_aload_n hx hb d_F_interpolant_32 rfl (lv_at hl 0 rfl) ?_
        refine x_get C0 hw 15 rfl rfl i_F 2 (by decide) wm_232 rfl rfl d_F_interpolant_33 ?_
        refine lv_aload_n hx hb d_F_interpolant_36 rfl (lv_at hl 0 rfl) ?_
        refine x_get C0 hw 15 rfl rfl i_F 0 (by decide) wm_230 rfl rfl d_F_interpolant_37 ?_
        refine x_getN C0 hw 3 rfl rfl i_C 10 (by decide) wm_123 rfl rfl d_F_interpolant_40 ?_
        obtain ⟨hi_9, h⟩ := h
        refine x_lald C0 hw 16 rfl hi_9 d_F_interpolant_43 ?_
        obtain ⟨hi_10, h⟩ := h
        refine x_last C0 hw 29 rfl hi_10 (ws' := WB ad ca T_length T_bytes C_size C_given C_empty C_drafted C_draftedGiven C_block C_left C_right C_pivot C_positive C_negative C_live C_needed R_kind R_place R_at R_token R_tokenPlace R_number R_state R_block R_positive R_negative R_left R_right R_pivot L_of F_cut F_labelledA F_labelledB F_row_7 A_root A_words A_known G_size G_variable G_low G_high G_numberOf G_nodeOf G_sides G_waiting B_table (vp_updL B_nextTable x4.toNatClampNeg (F_row_7 C_empty.toNatClampNeg))) rfl d_F_interpolant_44 (fun H locs hw => ?_)
        refine lv_iinc (v := (x4 + 1)) (lv' := [(4, .int (x4 + 1)), (0, .ref (ad 15)), (3, .ref (ad 29))]) hx hb d_F_interpolant_45 hl (k := 2) rfl rfl (by decide) rfl (fun ls hl => ?_)
        refine lv_goto (tgt := 9) hx hb d_F_interpolant_48 (by decide) ?_
        exact ih _ _ _ h hw (lv_sub hl [1, 2, 0] rfl)
set_option maxHeartbeats 4000000 in
set_option maxRecDepth 100000 in
theorem c_F_interpolantN {l : Launch} {D : va_G} {ca : Nat → ClassId} {tp : Nat} {ad : Nat → Nat} {T_length : Int32} {T_bytes : Nat → Int32} {C_size : Int32} {C_given : Int32} {C_empty : Int32} {C_drafted : Int32} {C_draftedGiven : Int32} {C_block : Nat → Int32} {C_left : Nat → Int32} {C_right : Nat → Int32} {C_pivot : Nat → Int32} {C_positive : Nat → Int32} {C_negative : Nat → Int32} {C_live : Nat → Int32} {C_needed : Nat → Int32} {R_kind : Int32} {R_place : Int32} {R_at : Int32} {R_token : Int32} {R_tokenPlace : Int32} {R_number : Int32} {R_state : Int32} {R_block : Int32} {R_positive : Int32} {R_negative : Int32} {R_left : Int32} {R_right : Int32} {R_pivot : Int32} {L_of : Nat → Int32} {F_cut : Int32} {F_labelledA : Int32} {F_labelledB : Int32} {F_row : Nat → Int64} {A_root : Int32} {A_words : Nat → Int64} {A_known : Nat → Int32} {G_size : Int32} {G_variable : Nat → Int32} {G_low : Nat → Int32} {G_high : Nat → Int32} {G_numberOf : Nat → Int32} {G_nodeOf : Nat → Int32} {G_sides : Nat → Int32} {G_waiting : Nat → Int32} {B_table : Nat → Int64} {B_nextTable : Nat → Int64} {x1 : Int32} {x2 : Int32} {k : Int32 → Int32 → Int32 → (Nat → Int64) → (Nat → Int64) → Prop} (h : p_F_interpolantN C_size C_empty C_block C_left C_right C_pivot C_positive C_negative C_needed L_of F_row B_nextTable x1 x2 k) :
    MTv l y_F_interpolant b_F_interpolant 5 none rm_F_interpolantN D ca tp [.ref (ad 15), .int x1, .int x2, .ref (ad 29)] (WB ad ca T_length T_bytes C_size C_given C_empty C_drafted C_draftedGiven C_block C_left C_right C_pivot C_positive C_negative C_live C_needed R_kind R_place R_at R_token R_tokenPlace R_number R_state R_block R_positive R_negative R_left R_right R_pivot L_of F_cut F_labelledA F_labelledB F_row A_root A_words A_known G_size G_variable G_low G_high G_numberOf G_nodeOf G_sides G_waiting B_table B_nextTable)
      (fun (u : Int32 × Int32 × Int32 × (Nat → Int64) × (Nat → Int64)) => k u.1 u.2.1 u.2.2.1 u.2.2.2.1 u.2.2.2.2)
      (fun (u : Int32 × Int32 × Int32 × (Nat → Int64) × (Nat → Int64)) => WB ad ca T_length T_bytes C_size C_given C_empty C_drafted C_draftedGiven C_block C_left C_right C_pivot C_positive C_negative C_live C_needed R_kind R_place R_at R_token R_tokenPlace R_number R_state R_block R_positive R_negative R_left R_right R_pivot L_of u.1 u.2.1 u.2.2.1 u.2.2.2.1 A_root A_words A_known G_size G_variable G_low G_high G_numberOf G_nodeOf G_sides G_waiting B_table u.2.2.2.2) 0 0 := by
  refine x_entryv (own := R_F) (nm := "interpolant") (by decide) rfl rfl (Nat.le_of_ble_eq_true rfl) (fun p e s m below meth c A ls C0 hw hl => ?_)
  have hx := C0.1
  have hb := C0.2.1
  have hl : lv_has ls 5 [(0, .ref (ad 15)), (1, .int x1), (2, .int x2), (3, .ref (ad 29))] := hl
  unfold p_F_interpolantN at h
  refine lv_aload_n hx hb d_F_interpolant_0 rfl (lv_at hl 0 rfl) ?_
  refine lv_iload_n hx hb d_F_interpolant_1 rfl (lv_at hl 1 rfl) ?_
  refine lv_iload_n hx hb d_F_interpolant_2 rfl (lv_at hl 2 rfl) ?_
  refine x_callVv C0 hw hl (c_F_choose h) g_F_choose wm_682 ⟨wm_574, wm_573⟩ 15 rfl rfl rfl (As := [.int x1, .int x2]) (rest := []) rfl rfl (Nat.le_of_ble_eq_true rfl) ⟨rfl, rfl⟩ ⟨Nat.le_of_ble_eq_true rfl, Nat.le_of_ble_eq_true rfl⟩ ⟨Nat.le_of_ble_eq_true rfl, Nat.le_of_ble_eq_true rfl⟩ d_F_interpolant_3 (fun u H locs h hw => ?_)
  obtain ⟨F_cut_1, F_labelledA_2, F_labelledB_3⟩ := u
  refine lv_iconst (v := 0) hx hb d_F_interpolant_6 (by decide) ?_
  refine lv_istore (lv' := [(4, .int (0 : Int32)), (0, .ref (ad 15)), (1, .int x1), (2, .int x2), (3, .ref (ad 29))]) hx hb d_F_interpolant_7 hl (by decide) rfl (fun ls hl => ?_)
  obtain ⟨j_11, h⟩ := h
  refine b_F_interpolantN_L9 C0 _ _ _ _ h hw (lv_sub hl [1, 4, 0] rfl)

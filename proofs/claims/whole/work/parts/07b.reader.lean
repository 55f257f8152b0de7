theorem g_T_append : GY y_T_append b_T_append 3 none 1 := ⟨wm_336, wm_54, by decide +kernel, by decide +kernel, by decide +kernel⟩
def p_T_append_L3 (x1 : Int32) (k : Int32 → (Nat → Int32) → Prop) : Nat → Int32 → Int32 → (Nat → Int32) → Prop
  | 0, _, _, _ => False
  | n + 1, x2, T_length, T_bytes =>
    ((x2 < 0 → (k T_length T_bytes)) ∧ (¬ x2 < 0 → ((T_length < 0 → (p_T_append_L3 x1 k n (x2 + (-8)) T_length T_bytes)) ∧ (¬ T_length < 0 → (((2000 : Int32) ≤ T_length → (p_T_append_L3 x1 k n (x2 + (-8)) T_length T_bytes)) ∧ (¬ (2000 : Int32) ≤ T_length → (vp_in T_length 2000 ∧ (p_T_append_L3 x1 k n (x2 + (-8)) (T_length + (1 : Int32)) (upd T_bytes T_length.toNatClampNeg (vp_nar .byte ((J_iushr x1 x2).toInt8.toInt32)))))))))))
def p_T_append (T_length : Int32) (T_bytes : Nat → Int32) (x1 : Int32) (k : Int32 → (Nat → Int32) → Prop) : Prop :=
  (∃ j_5, p_T_append_L3 x1 k j_5 (24 : Int32) T_length T_bytes)
abbrev rm_T_append : Room := { frames := 0, cells := 0, slots := 0, locals := 0 }
set_option maxHeartbeats 4000000 in
set_option maxRecDepth 100000 in
theorem b_T_append_L3 {p : Program} {l : Launch} {e : Env} {s : State} {m : MethodId} {args : Array Value} {below : List Frame} {meth : Method} {c : Code} {D : va_G} {ca : Nat → ClassId} {tp : Nat} {A : Nat → Prop} {ad : Nat → Nat} {C_size : Int32} {C_given : Int32} {C_empty : Int32} {C_drafted : Int32} {C_draftedGiven : Int32} {C_block : Nat → Int32} {C_left : Nat → Int32} {C_right : Nat → Int32} {C_pivot : Nat → Int32} {C_positive : Nat → Int32} {C_negative : Nat → Int32} {C_live : Nat → Int32} {C_needed : Nat → Int32} {R_kind : Int32} {R_place : Int32} {R_at : Int32} {R_token : Int32} {R_tokenPlace : Int32} {R_number : Int32} {R_state : Int32} {R_block : Int32} {R_positive : Int32} {R_negative : Int32} {R_left : Int32} {R_right : Int32} {R_pivot : Int32} {L_of : Nat → Int32} {F_cut : Int32} {F_labelledA : Int32} {F_labelledB : Int32} {F_row : Nat → Int64} {A_root : Int32} {A_words : Nat → Int64} {A_known : Nat → Int32} {G_size : Int32} {G_variable : Nat → Int32} {G_low : Nat → Int32} {G_high : Nat → Int32} {G_numberOf : Nat → Int32} {G_nodeOf : Nat → Int32} {G_sides : Nat → Int32} {G_waiting : Nat → Int32} {B_table : Nat → Int64} {B_nextTable : Nat → Int64} {x1 : Int32} {k : Int32 → (Nat → Int32) → Prop}  (C0 : CX p s m args meth c b_T_append 3 none R_T "append" D ca tp A) :
    ∀ (n : Nat) (x2 : Int32) (T_length : Int32) (T_bytes : Nat → Int32) {H : Heap} {locs : List Loc} {ls : Array Slot}, p_T_append_L3 x1 k n x2 T_length T_bytes → WH D A s (WB ad ca T_length T_bytes C_size C_given C_empty C_drafted C_draftedGiven C_block C_left C_right C_pivot C_positive C_negative C_live C_needed R_kind R_place R_at R_token R_tokenPlace R_number R_state R_block R_positive R_negative R_left R_right R_pivot L_of F_cut F_labelledA F_labelledB F_row A_root A_words A_known G_size G_variable G_low G_high G_numberOf G_nodeOf G_sides G_waiting B_table B_nextTable) H locs → lv_has ls 3 [(0, .ref (ad 1)), (1, .int x1), (2, .int x2)] →
      W p l e rm_T_append s m args below meth c H locs 0 0 (QV D A below args s (fun (u : Int32 × (Nat → Int32)) => k u.1 u.2) (fun (u : Int32 × (Nat → Int32)) => WB ad ca u.1 u.2 C_size C_given C_empty C_drafted C_draftedGiven C_block C_left C_right C_pivot C_positive C_negative C_live C_needed R_kind R_place R_at R_token R_tokenPlace R_number R_state R_block R_positive R_negative R_left R_right R_pivot L_of F_cut F_labelledA F_labelledB F_row A_root A_words A_known G_size G_variable G_low G_high G_numberOf G_nodeOf G_sides G_waiting B_table B_nextTable) 0 0) (F0 m 3 ls []) := by
  have hx := C0.1
  have hb := C0.2.1
  intro n
  induction n with
  | zero =>
    intro x2 T_length T_bytes H locs ls h
    exact False.elim h
  | succ n ih =>
    intro x2 T_length T_bytes H locs ls h hw hl
    unfold p_T_append_L3 at h
    refine lv_iload_n hx hb d_T_append_3 rfl (lv_at hl 2 rfl) ?_
    refine lv_if_lt (tgt := 53) hx hb d_T_append_4 (by decide) (fun c_1 => ?_) (fun c_1 => ?_)
    · have h := h.1 c_1
      exact x_vret C0 hw (T_length, T_bytes) h rfl d_T_append_53
    · have h := h.2 c_1
      refine lv_aload_n hx hb d_T_append_7 rfl (lv_at hl 0 rfl) ?_
      refine x_get C0 hw 1 rfl rfl i_T 1 (by decide) wm_81 rfl rfl d_T_append_8 ?_
      refine lv_if_lt (tgt := 47) hx hb d_T_append_11 (by decide) (fun c_2 => ?_) (fun c_2 => ?_)
      · have h := h.1 c_2
        refine lv_iinc (v := (x2 + (-8))) (lv' := [(2, .int (x2 + (-8))), (0, .ref (ad 1)), (1, .int x1)]) hx hb d_T_append_47 hl (k := 2) rfl rfl (by decide) rfl (fun ls hl => ?_)
        refine lv_goto (tgt := 3) hx hb d_T_append_50 (by decide) ?_
        exact ih _ _ _ h hw (lv_sub hl [1, 2, 0] rfl)
      · have h := h.2 c_2
        refine lv_aload_n hx hb d_T_append_14 rfl (lv_at hl 0 rfl) ?_
        refine x_get C0 hw 1 rfl rfl i_T 1 (by decide) wm_81 rfl rfl d_T_append_15 ?_
        refine lv_sipush (v := 2000) hx hb d_T_append_18 (by decide) ?_
        refine lv_icmp_ge (tgt := 47) hx hb d_T_append_21 (by decide) (fun c_3 => ?_) (fun c_3 => ?_)
        · have h := h.1 c_3
          refine lv_iinc (v := (x2 + (-8))) (lv' := [(2, .int (x2 + (-8))), (0, .ref (ad 1)), (1, .int x1)]) hx hb d_T_append_47 hl (k := 2) rfl rfl (by decide) rfl (fun ls hl => ?_)
          refine lv_goto (tgt := 3) hx hb d_T_append_50 (by decide) ?_
          exact ih _ _ _ h hw (lv_sub hl [1, 2, 0] rfl)
        · have h := h.2 c_3
          refine lv_aload_n hx hb d_T_append_24 rfl (lv_at hl 0 rfl) ?_
          refine x_get C0 hw 1 rfl rfl i_T 0 (by decide) wm_79 rfl rfl d_T_append_25 ?_
          refine lv_aload_n hx hb d_T_append_28 rfl (lv_at hl 0 rfl) ?_
          refine x_get C0 hw 1 rfl rfl i_T 1 (by decide) wm_81 rfl rfl d_T_append_29 ?_
          refine lv_iload_n hx hb d_T_append_32 rfl (lv_at hl 1 rfl) ?_
          refine lv_iload_n hx hb d_T_append_33 rfl (lv_at hl 2 rfl) ?_
          refine lv_iushr (v := (J_iushr x1 x2)) hx hb d_T_append_34 rfl ?_
          refine lv_i2b (v := ((J_iushr x1 x2).toInt8.toInt32)) hx hb d_T_append_35 rfl ?_
          obtain ⟨hi_4, h⟩ := h
          refine x_bast C0 hw 2 rfl hi_4 (ws' := WB ad ca T_length (upd T_bytes T_length.toNatClampNeg (vp_nar .byte ((J_iushr x1 x2).toInt8.toInt32))) C_size C_given C_empty C_drafted C_draftedGiven C_block C_left C_right C_pivot C_positive C_negative C_live C_needed R_kind R_place R_at R_token R_tokenPlace R_number R_state R_block R_positive R_negative R_left R_right R_pivot L_of F_cut F_labelledA F_labelledB F_row A_root A_words A_known G_size G_variable G_low G_high G_numberOf G_nodeOf G_sides G_waiting B_table B_nextTable) rfl d_T_append_36 (fun H locs hw => ?_)
          refine lv_aload_n hx hb d_T_append_37 rfl (lv_at hl 0 rfl) ?_
          refine lv_dup hx hb d_T_append_38 rfl ?_
          refine x_get C0 hw 1 rfl rfl i_T 1 (by decide) wm_81 rfl rfl d_T_append_39 ?_
          refine lv_iconst (v := 1) hx hb d_T_append_42 (by decide) ?_
          refine lv_iadd hx hb d_T_append_43 ?_
          refine x_put C0 hw 1 rfl rfl i_T tk_T n_T 1 (by decide) wm_81 rfl rfl rfl rfl (Nat.le_of_ble_eq_true rfl) (ws' := WB ad ca (T_length + (1 : Int32)) (upd T_bytes T_length.toNatClampNeg (vp_nar .byte ((J_iushr x1 x2).toInt8.toInt32))) C_size C_given C_empty C_drafted C_draftedGiven C_block C_left C_right C_pivot C_positive C_negative C_live C_needed R_kind R_place R_at R_token R_tokenPlace R_number R_state R_block R_positive R_negative R_left R_right R_pivot L_of F_cut F_labelledA F_labelledB F_row A_root A_words A_known G_size G_variable G_low G_high G_numberOf G_nodeOf G_sides G_waiting B_table B_nextTable) rfl d_T_append_44 (fun H locs hw => ?_)
          refine lv_iinc (v := (x2 + (-8))) (lv' := [(2, .int (x2 + (-8))), (0, .ref (ad 1)), (1, .int x1)]) hx hb d_T_append_47 hl (k := 2) rfl rfl (by decide) rfl (fun ls hl => ?_)
          refine lv_goto (tgt := 3) hx hb d_T_append_50 (by decide) ?_
          exact ih _ _ _ h hw (lv_sub hl [1, 2, 0] rfl)
set_option maxHeartbeats 4000000 in
set_option maxRecDepth 100000 in
theorem c_T_append {l : Launch} {D : va_G} {ca : Nat → ClassId} {tp : Nat} {ad : Nat → Nat} {T_length : Int32} {T_bytes : Nat → Int32} {C_size : Int32} {C_given : Int32} {C_empty : Int32} {C_drafted : Int32} {C_draftedGiven : Int32} {C_block : Nat → Int32} {C_left : Nat → Int32} {C_right : Nat → Int32} {C_pivot : Nat → Int32} {C_positive : Nat → Int32} {C_negative : Nat → Int32} {C_live : Nat → Int32} {C_needed : Nat → Int32} {R_kind : Int32} {R_place : Int32} {R_at : Int32} {R_token : Int32} {R_tokenPlace : Int32} {R_number : Int32} {R_state : Int32} {R_block : Int32} {R_positive : Int32} {R_negative : Int32} {R_left : Int32} {R_right : Int32} {R_pivot : Int32} {L_of : Nat → Int32} {F_cut : Int32} {F_labelledA : Int32} {F_labelledB : Int32} {F_row : Nat → Int64} {A_root : Int32} {A_words : Nat → Int64} {A_known : Nat → Int32} {G_size : Int32} {G_variable : Nat → Int32} {G_low : Nat → Int32} {G_high : Nat → Int32} {G_numberOf : Nat → Int32} {G_nodeOf : Nat → Int32} {G_sides : Nat → Int32} {G_waiting : Nat → Int32} {B_table : Nat → Int64} {B_nextTable : Nat → Int64} {x1 : Int32} {k : Int32 → (Nat → Int32) → Prop} (h : p_T_append T_length T_bytes x1 k) :
    MTv l y_T_append b_T_append 3 none rm_T_append D ca tp [.ref (ad 1), .int x1] (WB ad ca T_length T_bytes C_size C_given C_empty C_drafted C_draftedGiven C_block C_left C_right C_pivot C_positive C_negative C_live C_needed R_kind R_place R_at R_token R_tokenPlace R_number R_state R_block R_positive R_negative R_left R_right R_pivot L_of F_cut F_labelledA F_labelledB F_row A_root A_words A_known G_size G_variable G_low G_high G_numberOf G_nodeOf G_sides G_waiting B_table B_nextTable)
      (fun (u : Int32 × (Nat → Int32)) => k u.1 u.2)
      (fun (u : Int32 × (Nat → Int32)) => WB ad ca u.1 u.2 C_size C_given C_empty C_drafted C_draftedGiven C_block C_left C_right C_pivot C_positive C_negative C_live C_needed R_kind R_place R_at R_token R_tokenPlace R_number R_state R_block R_positive R_negative R_left R_right R_pivot L_of F_cut F_labelledA F_labelledB F_row A_root A_words A_known G_size G_variable G_low G_high G_numberOf G_nodeOf G_sides G_waiting B_table B_nextTable) 0 0 := by
  refine x_entryv (own := R_T) (nm := "append") (by decide) rfl rfl (Nat.le_of_ble_eq_true rfl) (fun p e s m below meth c A ls C0 hw hl => ?_)
  have hx := C0.1
  have hb := C0.2.1
  have hl : lv_has ls 3 [(0, .ref (ad 1)), (1, .int x1)] := hl
  unfold p_T_append at h
  refine lv_bipush (v := 24) hx hb d_T_append_0 (by decide) ?_
  refine lv_istore_n (lv' := [(2, .int (24 : Int32)), (0, .ref (ad 1)), (1, .int x1)]) hx hb d_T_append_2 rfl hl (by decide) rfl (fun ls hl => ?_)
  obtain ⟨j_5, h⟩ := h
  refine b_T_append_L3 C0 _ _ _ _ h hw (lv_sub hl [1, 2, 0] rfl)
theorem g_T_byteAt : GY y_T_byteAt b_T_byteAt 2 (some .int) 1 := ⟨wm_364, wm_54, by decide +kernel, by decide +kernel, by decide +kernel⟩
def p_T_byteAt (T_length : Int32) (T_bytes : Nat → Int32) (x1 : Int32) (k : Int32 → Prop) : Prop :=
  ((x1 < 0 → (k (-1 : Int32))) ∧ (¬ x1 < 0 → ((T_length ≤ x1 → (k (-1 : Int32))) ∧ (¬ T_length ≤ x1 → (((2000 : Int32) ≤ x1 → (k (-1 : Int32))) ∧ (¬ (2000 : Int32) ≤ x1 → (vp_in x1 2000 ∧ (k ((T_bytes x1.toNatClampNeg) &&& (255 : Int32))))))))))
abbrev rm_T_byteAt : Room := { frames := 0, cells := 0, slots := 0, locals := 0 }
set_option maxHeartbeats 4000000 in
set_option maxRecDepth 100000 in
theorem c_T_byteAt {l : Launch} {D : va_G} {ca : Nat → ClassId} {tp : Nat} {ad : Nat → Nat} {T_length : Int32} {T_bytes : Nat → Int32} {C_size : Int32} {C_given : Int32} {C_empty : Int32} {C_drafted : Int32} {C_draftedGiven : Int32} {C_block : Nat → Int32} {C_left : Nat → Int32} {C_right : Nat → Int32} {C_pivot : Nat → Int32} {C_positive : Nat → Int32} {C_negative : Nat → Int32} {C_live : Nat → Int32} {C_needed : Nat → Int32} {R_kind : Int32} {R_place : Int32} {R_at : Int32} {R_token : Int32} {R_tokenPlace : Int32} {R_number : Int32} {R_state : Int32} {R_block : Int32} {R_positive : Int32} {R_negative : Int32} {R_left : Int32} {R_right : Int32} {R_pivot : Int32} {L_of : Nat → Int32} {F_cut : Int32} {F_labelledA : Int32} {F_labelledB : Int32} {F_row : Nat → Int64} {A_root : Int32} {A_words : Nat → Int64} {A_known : Nat → Int32} {G_size : Int32} {G_variable : Nat → Int32} {G_low : Nat → Int32} {G_high : Nat → Int32} {G_numberOf : Nat → Int32} {G_nodeOf : Nat → Int32} {G_sides : Nat → Int32} {G_waiting : Nat → Int32} {B_table : Nat → Int64} {B_nextTable : Nat → Int64} {x1 : Int32} {k : Int32 → Prop} (h : p_T_byteAt T_length T_bytes x1 k) :
    MTi l y_T_byteAt b_T_byteAt 2 (some .int) rm_T_byteAt D ca tp [.ref (ad 1), .int x1] (WB ad ca T_length T_bytes C_size C_given C_empty C_drafted C_draftedGiven C_block C_left C_right C_pivot C_positive C_negative C_live C_needed R_kind R_place R_at R_token R_tokenPlace R_number R_state R_block R_positive R_negative R_left R_right R_pivot L_of F_cut F_labelledA F_labelledB F_row A_root A_words A_known G_size G_variable G_low G_high G_numberOf G_nodeOf G_sides G_waiting B_table B_nextTable)
      (fun r (_ : Unit) => k r)
      (fun (_ : Unit) => WB ad ca T_length T_bytes C_size C_given C_empty C_drafted C_draftedGiven C_block C_left C_right C_pivot C_positive C_negative C_live C_needed R_kind R_place R_at R_token R_tokenPlace R_number R_state R_block R_positive R_negative R_left R_right R_pivot L_of F_cut F_labelledA F_labelledB F_row A_root A_words A_known G_size G_variable G_low G_high G_numberOf G_nodeOf G_sides G_waiting B_table B_nextTable) 0 0 := by
  refine x_entryi (own := R_T) (nm := "byteAt") (by decide) rfl rfl (Nat.le_of_ble_eq_true rfl) (fun p e s m below meth c A ls C0 hw hl => ?_)
  have hx := C0.1
  have hb := C0.2.1
  have hl : lv_has ls 2 [(0, .ref (ad 1)), (1, .int x1)] := hl
  unfold p_T_byteAt at h
  refine lv_iload_n hx hb d_T_byteAt_0 rfl (lv_at hl 1 rfl) ?_
  refine lv_if_lt (tgt := 32) hx hb d_T_byteAt_1 (by decide) (fun c_1 => ?_) (fun c_1 => ?_)
  · have h := h.1 c_1
    refine lv_iconst (v := -1) hx hb d_T_byteAt_32 (by decide) ?_
    exact x_iret C0 hw () h rfl d_T_byteAt_33
  · have h := h.2 c_1
    refine lv_iload_n hx hb d_T_byteAt_4 rfl (lv_at hl 1 rfl) ?_
    refine lv_aload_n hx hb d_T_byteAt_5 rfl (lv_at hl 0 rfl) ?_
    refine x_get C0 hw 1 rfl rfl i_T 1 (by decide) wm_81 rfl rfl d_T_byteAt_6 ?_
    refine lv_icmp_ge (tgt := 32) hx hb d_T_byteAt_9 (by decide) (fun c_2 => ?_) (fun c_2 => ?_)
    · have h := h.1 c_2
      refine lv_iconst (v := -1) hx hb d_T_byteAt_32 (by decide) ?_
      exact x_iret C0 hw () h rfl d_T_byteAt_33
    · have h := h.2 c_2
      refine lv_iload_n hx hb d_T_byteAt_12 rfl (lv_at hl 1 rfl) ?_
      refine lv_sipush (v := 2000) hx hb d_T_byteAt_13 (by decide) ?_
      refine lv_icmp_ge (tgt := 32) hx hb d_T_byteAt_16 (by decide) (fun c_3 => ?_) (fun c_3 => ?_)
      · have h := h.1 c_3
        refine lv_iconst (v := -1) hx hb d_T_byteAt_32 (by decide) ?_
        exact x_iret C0 hw () h rfl d_T_byteAt_33
      · have h := h.2 c_3
        refine lv_aload_n hx hb d_T_byteAt_19 rfl (lv_at hl 0 rfl) ?_
        refine x_get C0 hw 1 rfl rfl i_T 0 (by decide) wm_79 rfl rfl d_T_byteAt_20 ?_
        refine lv_iload_n hx hb d_T_byteAt_23 rfl (lv_at hl 1 rfl) ?_
        obtain ⟨hi_4, h⟩ := h
        refine x_bald C0 hw 2 rfl hi_4 d_T_byteAt_24 ?_
        refine lv_sipush (v := 255) hx hb d_T_byteAt_25 (by decide) ?_
        refine lv_iand hx hb d_T_byteAt_28 ?_
        refine lv_goto (tgt := 33) hx hb d_T_byteAt_29 (by decide) ?_
        exact x_iret C0 hw () h rfl d_T_byteAt_33
theorem g_R_isBlank : GY y_R_isBlank b_R_isBlank 1 (some .boolean) 1 := ⟨wm_367, wm_56, by decide +kernel, by decide +kernel, by decide +kernel⟩
def p_R_isBlank (x0 : Int32) (k : Int32 → Prop) : Prop :=
  ((x0 = (32 : Int32) → (k (1 : Int32))) ∧ (¬ x0 = (32 : Int32) → ((¬ x0 = (10 : Int32) → (k (0 : Int32))) ∧ (x0 = (10 : Int32) → (k (1 : Int32))))))
abbrev rm_R_isBlank : Room := { frames := 0, cells := 0, slots := 0, locals := 0 }
set_option maxHeartbeats 4000000 in
set_option maxRecDepth 100000 in
theorem c_R_isBlank {l : Launch} {D : va_G} {ca : Nat → ClassId} {tp : Nat} {ad : Nat → Nat} {T_length : Int32} {T_bytes : Nat → Int32} {C_size : Int32} {C_given : Int32} {C_empty : Int32} {C_drafted : Int32} {C_draftedGiven : Int32} {C_block : Nat → Int32} {C_left : Nat → Int32} {C_right : Nat → Int32} {C_pivot : Nat → Int32} {C_positive : Nat → Int32} {C_negative : Nat → Int32} {C_live : Nat → Int32} {C_needed : Nat → Int32} {R_kind : Int32} {R_place : Int32} {R_at : Int32} {R_token : Int32} {R_tokenPlace : Int32} {R_number : Int32} {R_state : Int32} {R_block : Int32} {R_positive : Int32} {R_negative : Int32} {R_left : Int32} {R_right : Int32} {R_pivot : Int32} {L_of : Nat → Int32} {F_cut : Int32} {F_labelledA : Int32} {F_labelledB : Int32} {F_row : Nat → Int64} {A_root : Int32} {A_words : Nat → Int64} {A_known : Nat → Int32} {G_size : Int32} {G_variable : Nat → Int32} {G_low : Nat → Int32} {G_high : Nat → Int32} {G_numberOf : Nat → Int32} {G_nodeOf : Nat → Int32} {G_sides : Nat → Int32} {G_waiting : Nat → Int32} {B_table : Nat → Int64} {B_nextTable : Nat → Int64} {x0 : Int32} {k : Int32 → Prop} (h : p_R_isBlank x0 k) :
    MTi l y_R_isBlank b_R_isBlank 1 (some .boolean) rm_R_isBlank D ca tp [.int x0] (WB ad ca T_length T_bytes C_size C_given C_empty C_drafted C_draftedGiven C_block C_left C_right C_pivot C_positive C_negative C_live C_needed R_kind R_place R_at R_token R_tokenPlace R_number R_state R_block R_positive R_negative R_left R_right R_pivot L_of F_cut F_labelledA F_labelledB F_row A_root A_words A_known G_size G_variable G_low G_high G_numberOf G_nodeOf G_sides G_waiting B_table B_nextTable)
      (fun r (_ : Unit) => k r)
      (fun (_ : Unit) => WB ad ca T_length T_bytes C_size C_given C_empty C_drafted C_draftedGiven C_block C_left C_right C_pivot C_positive C_negative C_live C_needed R_kind R_place R_at R_token R_tokenPlace R_number R_state R_block R_positive R_negative R_left R_right R_pivot L_of F_cut F_labelledA F_labelledB F_row A_root A_words A_known G_size G_variable G_low G_high G_numberOf G_nodeOf G_sides G_waiting B_table B_nextTable) 0 0 := by
  refine x_entryi (own := R_R) (nm := "isBlank") (by decide) rfl rfl (Nat.le_of_ble_eq_true rfl) (fun p e s m below meth c A ls C0 hw hl => ?_)
  have hx := C0.1
  have hb := C0.2.1
  have hl : lv_has ls 1 [(0, .int x0)] := hl
  unfold p_R_isBlank at h
  refine lv_iload_n hx hb d_R_isBlank_0 rfl (lv_at hl 0 rfl) ?_
  refine lv_bipush (v := 32) hx hb d_R_isBlank_1 (by decide) ?_
  refine lv_icmp_eq (tgt := 12) hx hb d_R_isBlank_3 (by decide) (fun c_1 => ?_) (fun c_1 => ?_)
  · have h := h.1 c_1
    refine lv_iconst (v := 1) hx hb d_R_isBlank_12 (by decide) ?_
    refine lv_goto (tgt := 17) hx hb d_R_isBlank_13 (by decide) ?_
    exact x_zret C0 hw rfl () h rfl d_R_isBlank_17
  · have h := h.2 c_1
    refine lv_iload_n hx hb d_R_isBlank_6 rfl (lv_at hl 0 rfl) ?_
    refine lv_bipush (v := 10) hx hb d_R_isBlank_7 (by decide) ?_
    refine lv_icmp_ne (tgt := 16) hx hb d_R_isBlank_9 (by decide) (fun c_2 => ?_) (fun c_2 => ?_)
    · have h := h.1 c_2
      refine lv_iconst (v := 0) hx hb d_R_isBlank_16 (by decide) ?_
      exact x_zret C0 hw rfl () h rfl d_R_isBlank_17
    · have h := h.2 c_2
      refine lv_iconst (v := 1) hx hb d_R_isBlank_12 (by decide) ?_
      refine lv_goto (tgt := 17) hx hb d_R_isBlank_13 (by decide) ?_
      exact x_zret C0 hw rfl () h rfl d_R_isBlank_17
theorem g_R_isDigit : GY y_R_isDigit b_R_isDigit 1 (some .boolean) 1 := ⟨wm_370, wm_56, by decide +kernel, by decide +kernel, by decide +kernel⟩
def p_R_isDigit (x0 : Int32) (k : Int32 → Prop) : Prop :=
  ((x0 < (48 : Int32) → (k (0 : Int32))) ∧ (¬ x0 < (48 : Int32) → (((57 : Int32) < x0 → (k (0 : Int32))) ∧ (¬ (57 : Int32) < x0 → (k (1 : Int32))))))
abbrev rm_R_isDigit : Room := { frames := 0, cells := 0, slots := 0, locals := 0 }
set_option maxHeartbeats 4000000 in
set_option maxRecDepth 100000 in
theorem c_R_isDigit {l : Launch} {D : va_G} {ca : Nat → ClassId} {tp : Nat} {ad : Nat → Nat} {T_length : Int32} {T_bytes : Nat → Int32} {C_size : Int32} {C_given : Int32} {C_empty : Int32} {C_drafted : Int32} {C_draftedGiven : Int32} {C_block : Nat → Int32} {C_left : Nat → Int32} {C_right : Nat → Int32} {C_pivot : Nat → Int32} {C_positive : Nat → Int32} {C_negative : Nat → Int32} {C_live : Nat → Int32} {C_needed : Nat → Int32} {R_kind : Int32} {R_place : Int32} {R_at : Int32} {R_token : Int32} {R_tokenPlace : Int32} {R_number : Int32} {R_state : Int32} {R_block : Int32} {R_positive : Int32} {R_negative : Int32} {R_left : Int32} {R_right : Int32} {R_pivot : Int32} {L_of : Nat → Int32} {F_cut : Int32} {F_labelledA : Int32} {F_labelledB : Int32} {F_row : Nat → Int64} {A_root : Int32} {A_words : Nat → Int64} {A_known : Nat → Int32} {G_size : Int32} {G_variable : Nat → Int32} {G_low : Nat → Int32} {G_high : Nat → Int32} {G_numberOf : Nat → Int32} {G_nodeOf : Nat → Int32} {G_sides : Nat → Int32} {G_waiting : Nat → Int32} {B_table : Nat → Int64} {B_nextTable : Nat → Int64} {x0 : Int32} {k : Int32 → Prop} (h : p_R_isDigit x0 k) :
    MTi l y_R_isDigit b_R_isDigit 1 (some .boolean) rm_R_isDigit D ca tp [.int x0] (WB ad ca T_length T_bytes C_size C_given C_empty C_drafted C_draftedGiven C_block C_left C_right C_pivot C_positive C_negative C_live C_needed R_kind R_place R_at R_token R_tokenPlace R_number R_state R_block R_positive R_negative R_left R_right R_pivot L_of F_cut F_labelledA F_labelledB F_row A_root A_words A_known G_size G_variable G_low G_high G_numberOf G_nodeOf G_sides G_waiting B_table B_nextTable)
      (fun r (_ : Unit) => k r)
      (fun (_ : Unit) => WB ad ca T_length T_bytes C_size C_given C_empty C_drafted C_draftedGiven C_block C_left C_right C_pivot C_positive C_negative C_live C_needed R_kind R_place R_at R_token R_tokenPlace R_number R_state R_block R_positive R_negative R_left R_right R_pivot L_of F_cut F_labelledA F_labelledB F_row A_root A_words A_known G_size G_variable G_low G_high G_numberOf G_nodeOf G_sides G_waiting B_table B_nextTable) 0 0 := by
  refine x_entryi (own := R_R) (nm := "isDigit") (by decide) rfl rfl (Nat.le_of_ble_eq_true rfl) (fun p e s m below meth c A ls C0 hw hl => ?_)
  have hx := C0.1
  have hb := C0.2.1
  have hl : lv_has ls 1 [(0, .int x0)] := hl
  unfold p_R_isDigit at h
  refine lv_iload_n hx hb d_R_isDigit_0 rfl (lv_at hl 0 rfl) ?_
  refine lv_bipush (v := 48) hx hb d_R_isDigit_1 (by decide) ?_
  refine lv_icmp_lt (tgt := 16) hx hb d_R_isDigit_3 (by decide) (fun c_1 => ?_) (fun c_1 => ?_)
  · have h := h.1 c_1
    refine lv_iconst (v := 0) hx hb d_R_isDigit_16 (by decide) ?_
    exact x_zret C0 hw rfl () h rfl d_R_isDigit_17
  · have h := h.2 c_1
    refine lv_iload_n hx hb d_R_isDigit_6 rfl (lv_at hl 0 rfl) ?_
    refine lv_bipush (v := 57) hx hb d_R_isDigit_7 (by decide) ?_
    refine lv_icmp_gt (tgt := 16) hx hb d_R_isDigit_9 (by decide) (fun c_2 => ?_) (fun c_2 => ?_)
    · have h := h.1 c_2
      refine lv_iconst (v := 0) hx hb d_R_isDigit_16 (by decide) ?_
      exact x_zret C0 hw rfl () h rfl d_R_isDigit_17
    · have h := h.2 c_2
      refine lv_iconst (v := 1) hx hb d_R_isDigit_12 (by decide) ?_
      refine lv_goto (tgt := 17) hx hb d_R_isDigit_13 (by decide) ?_
      exact x_zret C0 hw rfl () h rfl d_R_isDigit_17
theorem g_R_isSign : GY y_R_isSign b_R_isSign 1 (some .boolean) 1 := ⟨wm_377, wm_56, by decide +kernel, by decide +kernel, by decide +kernel⟩
def p_R_isSign (x0 : Int32) (k : Int32 → Prop) : Prop :=
  ((x0 = (99 : Int32) → (k (1 : Int32))) ∧ (¬ x0 = (99 : Int32) → ((x0 = (114 : Int32) → (k (1 : Int32))) ∧ (¬ x0 = (114 : Int32) → ((x0 = (58 : Int32) → (k (1 : Int32))) ∧ (¬ x0 = (58 : Int32) → ((x0 = (59 : Int32) → (k (1 : Int32))) ∧ (¬ x0 = (59 : Int32) → ((¬ x0 = (45 : Int32) → (k (0 : Int32))) ∧ (x0 = (45 : Int32) → (k (1 : Int32))))))))))))
abbrev rm_R_isSign : Room := { frames := 0, cells := 0, slots := 0, locals := 0 }
set_option maxHeartbeats 4000000 in
set_option maxRecDepth 100000 in
theorem c_R_isSign {l : Launch} {D : va_G} {ca : Nat → ClassId} {tp : Nat} {ad : Nat → Nat} {T_length : Int32} {T_bytes : Nat → Int32} {C_size : Int32} {C_given : Int32} {C_empty : Int32} {C_drafted : Int32} {C_draftedGiven : Int32} {C_block : Nat → Int32} {C_left : Nat → Int32} {C_right : Nat → Int32} {C_pivot : Nat → Int32} {C_positive : Nat → Int32} {C_negative : Nat → Int32} {C_live : Nat → Int32} {C_needed : Nat → Int32} {R_kind : Int32} {R_place : Int32} {R_at : Int32} {R_token : Int32} {R_tokenPlace : Int32} {R_number : Int32} {R_state : Int32} {R_block : Int32} {R_positive : Int32} {R_negative : Int32} {R_left : Int32} {R_right : Int32} {R_pivot : Int32} {L_of : Nat → Int32} {F_cut : Int32} {F_labelledA : Int32} {F_labelledB : Int32} {F_row : Nat → Int64} {A_root : Int32} {A_words : Nat → Int64} {A_known : Nat → Int32} {G_size : Int32} {G_variable : Nat → Int32} {G_low : Nat → Int32} {G_high : Nat → Int32} {G_numberOf : Nat → Int32} {G_nodeOf : Nat → Int32} {G_sides : Nat → Int32} {G_waiting : Nat → Int32} {B_table : Nat → Int64} {B_nextTable : Nat → Int64} {x0 : Int32} {k : Int32 → Prop} (h : p_R_isSign x0 k) :
    MTi l y_R_isSign b_R_isSign 1 (some .boolean) rm_R_isSign D ca tp [.int x0] (WB ad ca T_length T_bytes C_size C_given C_empty C_drafted C_draftedGiven C_block C_left C_right C_pivot C_positive C_negative C_live C_needed R_kind R_place R_at R_token R_tokenPlace R_number R_state R_block R_positive R_negative R_left R_right R_pivot L_of F_cut F_labelledA F_labelledB F_row A_root A_words A_known G_size G_variable G_low G_high G_numberOf G_nodeOf G_sides G_waiting B_table B_nextTable)
      (fun r (_ : Unit) => k r)
      (fun (_ : Unit) => WB ad ca T_length T_bytes C_size C_given C_empty C_drafted C_draftedGiven C_block C_left C_right C_pivot C_positive C_negative C_live C_needed R_kind R_place R_at R_token R_tokenPlace R_number R_state R_block R_positive R_negative R_left R_right R_pivot L_of F_cut F_labelledA F_labelledB F_row A_root A_words A_known G_size G_variable G_low G_high G_numberOf G_nodeOf G_sides G_waiting B_table B_nextTable) 0 0 := by
  refine x_entryi (own := R_R) (nm := "isSign") (by decide) rfl rfl (Nat.le_of_ble_eq_true rfl) (fun p e s m below meth c A ls C0 hw hl => ?_)
  have hx := C0.1
  have hb := C0.2.1
  have hl : lv_has ls 1 [(0, .int x0)] := hl
  unfold p_R_isSign at h
  refine lv_iload_n hx hb d_R_isSign_0 rfl (lv_at hl 0 rfl) ?_
  refine lv_bipush (v := 99) hx hb d_R_isSign_1 (by decide) ?_
  refine lv_icmp_eq (tgt := 30) hx hb d_R_isSign_3 (by decide) (fun c_1 => ?_) (fun c_1 => ?_)
  · have h := h.1 c_1
    refine lv_iconst (v := 1) hx hb d_R_isSign_30 (by decide) ?_
    refine lv_goto (tgt := 35) hx hb d_R_isSign_31 (by decide) ?_
    exact x_zret C0 hw rfl () h rfl d_R_isSign_35
  · have h := h.2 c_1
    refine lv_iload_n hx hb d_R_isSign_6 rfl (lv_at hl 0 rfl) ?_
    refine lv_bipush (v := 114) hx hb d_R_isSign_7 (by decide) ?_
    refine lv_icmp_eq (tgt := 30) hx hb d_R_isSign_9 (by decide) (fun c_2 => ?_) (fun c_2 => ?_)
    · have h := h.1 c_2
      refine lv_iconst (v := 1) hx hb d_R_isSign_30 (by decide) ?_
      refine lv_goto (tgt := 35) hx hb d_R_isSign_31 (by decide) ?_
      exact x_zret C0 hw rfl () h rfl d_R_isSign_35
    · have h := h.2 c_2
      refine lv_iload_n hx hb d_R_isSign_12 rfl (lv_at hl 0 rfl) ?_
      refine lv_bipush (v := 58) hx hb d_R_isSign_13 (by decide) ?_
      refine lv_icmp_eq (tgt := 30) hx hb d_R_isSign_15 (by decide) (fun c_3 => ?_) (fun c_3 => ?_)
      · have h := h.1 c_3
        refine lv_iconst (v := 1) hx hb d_R_isSign_30 (by decide) ?_
        refine lv_goto (tgt := 35) hx hb d_R_isSign_31 (by decide) ?_
        exact x_zret C0 hw rfl () h rfl d_R_isSign_35
      · have h := h.2 c_3
        refine lv_iload_n hx hb d_R_isSign_18 rfl (lv_at hl 0 rfl) ?_
        refine lv_bipush (v := 59) hx hb d_R_isSign_19 (by decide) ?_
        refine lv_icmp_eq (tgt := 30) hx hb d_R_isSign_21 (by decide) (fun c_4 => ?_) (fun c_4 => ?_)
        · have h := h.1 c_4
          refine lv_iconst (v := 1) hx hb d_R_isSign_30 (by decide) ?_
          refine lv_goto (tgt := 35) hx hb d_R_isSign_31 (by decide) ?_
          exact x_zret C0 hw rfl () h rfl d_R_isSign_35
        · have h := h.2 c_4
          refine lv_iload_n hx hb d_R_isSign_24 rfl (lv_at hl 0 rfl) ?_
          refine lv_bipush (v := 45) hx hb d_R_isSign_25 (by decide) ?_
          refine lv_icmp_ne (tgt := 34) hx hb d_R_isSign_27 (by decide) (fun c_5 => ?_) (fun c_5 => ?_)
          · have h := h.1 c_5
            refine lv_iconst (v := 0) hx hb d_R_isSign_34 (by decide) ?_
            exact x_zret C0 hw rfl () h rfl d_R_isSign_35
          · have h := h.2 c_5
            refine lv_iconst (v := 1) hx hb d_R_isSign_30 (by decide) ?_
            refine lv_goto (tgt := 35) hx hb d_R_isSign_31 (by decide) ?_
            exact x_zret C0 hw rfl () h rfl d_R_isSign_35
theorem g_R_fail : GY y_R_fail b_R_fail 2 none 1 := ⟨wm_401, wm_56, by decide +kernel, by decide +kernel, by decide +kernel⟩
def p_R_fail (R_tokenPlace : Int32) (x1 : Int32) (k : Int32 → Int32 → Prop) : Prop :=
  (k x1 R_tokenPlace)
abbrev rm_R_fail : Room := { frames := 0, cells := 0, slots := 0, locals := 0 }
set_option maxHeartbeats 4000000 in
set_option maxRecDepth 100000 in
theorem c_R_fail {l : Launch} {D : va_G} {ca : Nat → ClassId} {tp : Nat} {ad : Nat → Nat} {T_length : Int32} {T_bytes : Nat → Int32} {C_size : Int32} {C_given : Int32} {C_empty : Int32} {C_drafted : Int32} {C_draftedGiven : Int32} {C_block : Nat → Int32} {C_left : Nat → Int32} {C_right : Nat → Int32} {C_pivot : Nat → Int32} {C_positive : Nat → Int32} {C_negative : Nat → Int32} {C_live : Nat → Int32} {C_needed : Nat → Int32} {R_kind : Int32} {R_place : Int32} {R_at : Int32} {R_token : Int32} {R_tokenPlace : Int32} {R_number : Int32} {R_state : Int32} {R_block : Int32} {R_positive : Int32} {R_negative : Int32} {R_left : Int32} {R_right : Int32} {R_pivot : Int32} {L_of : Nat → Int32} {F_cut : Int32} {F_labelledA : Int32} {F_labelledB : Int32} {F_row : Nat → Int64} {A_root : Int32} {A_words : Nat → Int64} {A_known : Nat → Int32} {G_size : Int32} {G_variable : Nat → Int32} {G_low : Nat → Int32} {G_high : Nat → Int32} {G_numberOf : Nat → Int32} {G_nodeOf : Nat → Int32} {G_sides : Nat → Int32} {G_waiting : Nat → Int32} {B_table : Nat → Int64} {B_nextTable : Nat → Int64} {x1 : Int32} {k : Int32 → Int32 → Prop} (h : p_R_fail R_tokenPlace x1 k) :
    MTv l y_R_fail b_R_fail 2 none rm_R_fail D ca tp [.ref (ad 12), .int x1] (WB ad ca T_length T_bytes C_size C_given C_empty C_drafted C_draftedGiven C_block C_left C_right C_pivot C_positive C_negative C_live C_needed R_kind R_place R_at R_token R_tokenPlace R_number R_state R_block R_positive R_negative R_left R_right R_pivot L_of F_cut F_labelledA F_labelledB F_row A_root A_words A_known G_size G_variable G_low G_high G_numberOf G_nodeOf G_sides G_waiting B_table B_nextTable)
      (fun (u : Int32 × Int32) => k u.1 u.2)
      (fun (u : Int32 × Int32) => WB ad ca T_length T_bytes C_size C_given C_empty C_drafted C_draftedGiven C_block C_left C_right C_pivot C_positive C_negative C_live C_needed u.1 u.2 R_at R_token R_tokenPlace R_number R_state R_block R_positive R_negative R_left R_right R_pivot L_of F_cut F_labelledA F_labelledB F_row A_root A_words A_known G_size G_variable G_low G_high G_numberOf G_nodeOf G_sides G_waiting B_table B_nextTable) 0 0 := by
  refine x_entryv (own := R_R) (nm := "fail") (by decide) rfl rfl (Nat.le_of_ble_eq_true rfl) (fun p e s m below meth c A ls C0 hw hl => ?_)
  have hx := C0.1
  have hb := C0.2.1
  have hl : lv_has ls 2 [(0, .ref (ad 12)), (1, .int x1)] := hl
  unfold p_R_fail at h
  refine lv_aload_n hx hb d_R_fail_0 rfl (lv_at hl 0 rfl) ?_
  refine lv_iload_n hx hb d_R_fail_1 rfl (lv_at hl 1 rfl) ?_
  refine x_put C0 hw 12 rfl rfl i_R tk_R n_R 2 (by decide) wm_165 rfl rfl rfl rfl (Nat.le_of_ble_eq_true rfl) (ws' := WB ad ca T_length T_bytes C_size C_given C_empty C_drafted C_draftedGiven C_block C_left C_right C_pivot C_positive C_negative C_live C_needed x1 R_place R_at R_token R_tokenPlace R_number R_state R_block R_positive R_negative R_left R_right R_pivot L_of F_cut F_labelledA F_labelledB F_row A_root A_words A_known G_size G_variable G_low G_high G_numberOf G_nodeOf G_sides G_waiting B_table B_nextTable) rfl d_R_fail_2 (fun H locs hw => ?_)
  refine lv_aload_n hx hb d_R_fail_5 rfl (lv_at hl 0 rfl) ?_
  refine lv_aload_n hx hb d_R_fail_6 rfl (lv_at hl 0 rfl) ?_
  refine x_get C0 hw 12 rfl rfl i_R 6 (by decide) wm_171 rfl rfl d_R_fail_7 ?_
  refine x_put C0 hw 12 rfl rfl i_R tk_R n_R 3 (by decide) wm_167 rfl rfl rfl rfl (Nat.le_of_ble_eq_true rfl) (ws' := WB ad ca T_length T_bytes C_size C_given C_empty C_drafted C_draftedGiven C_block C_left C_right C_pivot C_positive C_negative C_live C_needed x1 R_tokenPlace R_at R_token R_tokenPlace R_number R_state R_block R_positive R_negative R_left R_right R_pivot L_of F_cut F_labelledA F_labelledB F_row A_root A_words A_known G_size G_variable G_low G_high G_numberOf G_nodeOf G_sides G_waiting B_table B_nextTable) rfl d_R_fail_10 (fun H locs hw => ?_)
  exact x_vret C0 hw (x1, R_tokenPlace) h rfl d_R_fail_13
theorem g_R_skipBlanks : GY y_R_skipBlanks b_R_skipBlanks 1 none 0 := ⟨wm_360, wm_56, by decide +kernel, by decide +kernel, by decide +kernel⟩
def p_R_skipBlanks_L0 (T_length : Int32) (T_bytes : Nat → Int32) (k : Int32 → Prop) : Nat → Int32 → Prop
  | 0, _ => False
  | n + 1, R_at =>
    ((T_length ≤ R_at → (k R_at)) ∧ (¬ T_length ≤ R_at → (p_T_byteAt T_length T_bytes R_at (fun (r_2 : Int32) => (p_R_isBlank r_2 (fun (r_3 : Int32) => ((r_3 = 0 → (k R_at)) ∧ (¬ r_3 = 0 → (p_R_skipBlanks_L0 T_length T_bytes k n (R_at + (1 : Int32)))))))))))
def p_R_skipBlanks (T_length : Int32) (T_bytes : Nat → Int32) (R_at : Int32) (k : Int32 → Prop) : Prop :=
  (∃ j_5, p_R_skipBlanks_L0 T_length T_bytes k j_5 R_at)
abbrev rm_R_skipBlanks : Room := { frames := 1, cells := 0, slots := 0, locals := 21 }
set_option maxHeartbeats 4000000 in
set_option maxRecDepth 100000 in
theorem b_R_skipBlanks_L0 {p : Program} {l : Launch} {e : Env} {s : State} {m : MethodId} {args : Array Value} {below : List Frame} {meth : Method} {c : Code} {D : va_G} {ca : Nat → ClassId} {tp : Nat} {A : Nat → Prop} {ad : Nat → Nat} {T_length : Int32} {T_bytes : Nat → Int32} {C_size : Int32} {C_given : Int32} {C_empty : Int32} {C_drafted : Int32} {C_draftedGiven : Int32} {C_block : Nat → Int32} {C_left : Nat → Int32} {C_right : Nat → Int32} {C_pivot : Nat → Int32} {C_positive : Nat → Int32} {C_negative : Nat → Int32} {C_live : Nat → Int32} {C_needed : Nat → Int32} {R_kind : Int32} {R_place : Int32} {R_token : Int32} {R_tokenPlace : Int32} {R_number : Int32} {R_state : Int32} {R_block : Int32} {R_positive : Int32} {R_negative : Int32} {R_left : Int32} {R_right : Int32} {R_pivot : Int32} {L_of : Nat → Int32} {F_cut : Int32} {F_labelledA : Int32} {F_labelledB : Int32} {F_row : Nat → Int64} {A_root : Int32} {A_words : Nat → Int64} {A_known : Nat → Int32} {G_size : Int32} {G_variable : Nat → Int32} {G_low : Nat → Int32} {G_high : Nat → Int32} {G_numberOf : Nat → Int32} {G_nodeOf : Nat → Int32} {G_sides : Nat → Int32} {G_waiting : Nat → Int32} {B_table : Nat → Int64} {B_nextTable : Nat → Int64}  {k : Int32 → Prop}  (C0 : CX p s m args meth c b_R_skipBlanks 1 none R_R "skipBlanks" D ca tp A) :
    ∀ (n : Nat) (R_at : Int32) {H : Heap} {locs : List Loc} {ls : Array Slot}, p_R_skipBlanks_L0 T_length T_bytes k n R_at → WH D A s (WB ad ca T_length T_bytes C_size C_given C_empty C_drafted C_draftedGiven C_block C_left C_right C_pivot C_positive C_negative C_live C_needed R_kind R_place R_at R_token R_tokenPlace R_number R_state R_block R_positive R_negative R_left R_right R_pivot L_of F_cut F_labelledA F_labelledB F_row A_root A_words A_known G_size G_variable G_low G_high G_numberOf G_nodeOf G_sides G_waiting B_table B_nextTable) H locs → lv_has ls 1 [(0, .ref (ad 12))] →
      W p l e rm_R_skipBlanks s m args below meth c H locs 0 0 (QV D A below args s (fun (u : Int32) => k u) (fun (u : Int32) => WB ad ca T_length T_bytes C_size C_given C_empty C_drafted C_draftedGiven C_block C_left C_right C_pivot C_positive C_negative C_live C_needed R_kind R_place u R_token R_tokenPlace R_number R_state R_block R_positive R_negative R_left R_right R_pivot L_of F_cut F_labelledA F_labelledB F_row A_root A_words A_known G_size G_variable G_low G_high G_numberOf G_nodeOf G_sides G_waiting B_table B_nextTable) 0 0) (F0 m 0 ls []) := by
  have hx := C0.1
  have hb := C0.2.1
  intro n
  induction n with
  | zero =>
    intro R_at H locs ls h
    exact False.elim h
  | succ n ih =>
    intro R_at H locs ls h hw hl
    unfold p_R_skipBlanks_L0 at h
    refine lv_aload_n hx hb d_R_skipBlanks_0 rfl (lv_at hl 0 rfl) ?_
    refine x_get C0 hw 12 rfl rfl i_R 4 (by decide) wm_169 rfl rfl d_R_skipBlanks_1 ?_
    refine lv_aload_n hx hb d_R_skipBlanks_4 rfl (lv_at hl 0 rfl) ?_
    refine x_get C0 hw 12 rfl rfl i_R 0 (by decide) wm_163 rfl rfl d_R_skipBlanks_5 ?_
    refine x_getN C0 hw 1 rfl rfl i_T 1 (by decide) wm_82 rfl rfl d_R_skipBlanks_8 ?_
    refine lv_icmp_ge (tgt := 44) hx hb d_R_skipBlanks_11 (by decide) (fun c_1 => ?_) (fun c_1 => ?_)
    · have h := h.1 c_1
      exact x_vret C0 hw R_at h rfl d_R_skipBlanks_44
    · have h := h.2 c_1
      refine lv_aload_n hx hb d_R_skipBlanks_14 rfl (lv_at hl 0 rfl) ?_
      refine x_get C0 hw 12 rfl rfl i_R 0 (by decide) wm_163 rfl rfl d_R_skipBlanks_15 ?_
      refine lv_aload_n hx hb d_R_skipBlanks_18 rfl (lv_at hl 0 rfl) ?_
      refine x_get C0 hw 12 rfl rfl i_R 4 (by decide) wm_169 rfl rfl d_R_skipBlanks_19 ?_
      refine x_callVi C0 hw hl (c_T_byteAt h) g_T_byteAt wm_361 ⟨wm_363, wm_362⟩ 1 rfl rfl rfl (As := [.int R_at]) (rest := []) rfl rfl (Nat.le_of_ble_eq_true rfl) ⟨rfl, rfl⟩ ⟨Nat.le_of_ble_eq_true rfl, Nat.le_of_ble_eq_true rfl⟩ ⟨Nat.le_of_ble_eq_true rfl, Nat.le_of_ble_eq_true rfl⟩ d_R_skipBlanks_22 (fun r_2 u H locs h hw => ?_)
      refine x_callSi C0 hw hl (c_R_isBlank h) g_R_isBlank wm_365 wm_366 (As := [.int r_2]) (rest := []) rfl rfl (Nat.le_of_ble_eq_true rfl) ⟨rfl, rfl⟩ ⟨Nat.le_of_ble_eq_true rfl, Nat.le_of_ble_eq_true rfl⟩ ⟨Nat.le_of_ble_eq_true rfl, Nat.le_of_ble_eq_true rfl⟩ d_R_skipBlanks_25 (fun r_3 u H locs h hw => ?_)
      refine lv_if_eq (tgt := 44) hx hb d_R_skipBlanks_28 (by decide) (fun c_4 => ?_) (fun c_4 => ?_)
      · have h := h.1 c_4
        exact x_vret C0 hw R_at h rfl d_R_skipBlanks_44
      · have h := h.2 c_4
        refine lv_aload_n hx hb d_R_skipBlanks_31 rfl (lv_at hl 0 rfl) ?_
        refine lv_dup hx hb d_R_skipBlanks_32 rfl ?_
        refine x_get C0 hw 12 rfl rfl i_R 4 (by decide) wm_169 rfl rfl d_R_skipBlanks_33 ?_
        refine lv_iconst (v := 1) hx hb d_R_skipBlanks_36 (by decide) ?_
        refine lv_iadd hx hb d_R_skipBlanks_37 ?_
        refine x_put C0 hw 12 rfl rfl i_R tk_R n_R 4 (by decide) wm_169 rfl rfl rfl rfl (Nat.le_of_ble_eq_true rfl) (ws' := WB ad ca T_length T_bytes C_size C_given C_empty C_drafted C_draftedGiven C_block C_left C_right C_pivot C_positive C_negative C_live C_needed R_kind R_place (R_at + (1 : Int32)) R_token R_tokenPlace R_number R_state R_block R_positive R_negative R_left R_right R_pivot L_of F_cut F_labelledA F_labelledB F_row A_root A_words A_known G_size G_variable G_low G_high G_numberOf G_nodeOf G_sides G_waiting B_table B_nextTable) rfl d_R_skipBlanks_38 (fun H locs hw => ?_)
        refine lv_goto (tgt := 0) hx hb d_R_skipBlanks_41 (by decide) ?_
        exact ih _ h hw (lv_sub hl [0] rfl)
set_option maxHeartbeats 4000000 in
set_option maxRecDepth 100000 in
theorem c_R_skipBlanks {l : Launch} {D : va_G} {ca : Nat → ClassId} {tp : Nat} {ad : Nat → Nat} {T_length : Int32} {T_bytes : Nat → Int32} {C_size : Int32} {C_given : Int32} {C_empty : Int32} {C_drafted : Int32} {C_draftedGiven : Int32} {C_block : Nat → Int32} {C_left : Nat → Int32} {C_right : Nat → Int32} {C_pivot : Nat → Int32} {C_positive : Nat → Int32} {C_negative : Nat → Int32} {C_live : Nat → Int32} {C_needed : Nat → Int32} {R_kind : Int32} {R_place : Int32} {R_at : Int32} {R_token : Int32} {R_tokenPlace : Int32} {R_number : Int32} {R_state : Int32} {R_block : Int32} {R_positive : Int32} {R_negative : Int32} {R_left : Int32} {R_right : Int32} {R_pivot : Int32} {L_of : Nat → Int32} {F_cut : Int32} {F_labelledA : Int32} {F_labelledB : Int32} {F_row : Nat → Int64} {A_root : Int32} {A_words : Nat → Int64} {A_known : Nat → Int32} {G_size : Int32} {G_variable : Nat → Int32} {G_low : Nat → Int32} {G_high : Nat → Int32} {G_numberOf : Nat → Int32} {G_nodeOf : Nat → Int32} {G_sides : Nat → Int32} {G_waiting : Nat → Int32} {B_table : Nat → Int64} {B_nextTable : Nat → Int64}  {k : Int32 → Prop} (h : p_R_skipBlanks T_length T_bytes R_at k) :
    MTv l y_R_skipBlanks b_R_skipBlanks 1 none rm_R_skipBlanks D ca tp [.ref (ad 12)] (WB ad ca T_length T_bytes C_size C_given C_empty C_drafted C_draftedGiven C_block C_left C_right C_pivot C_positive C_negative C_live C_needed R_kind R_place R_at R_token R_tokenPlace R_number R_state R_block R_positive R_negative R_left R_right R_pivot L_of F_cut F_labelledA F_labelledB F_row A_root A_words A_known G_size G_variable G_low G_high G_numberOf G_nodeOf G_sides G_waiting B_table B_nextTable)
      (fun (u : Int32) => k u)
      (fun (u : Int32) => WB ad ca T_length T_bytes C_size C_given C_empty C_drafted C_draftedGiven C_block C_left C_right C_pivot C_positive C_negative C_live C_needed R_kind R_place u R_token R_tokenPlace R_number R_state R_block R_positive R_negative R_left R_right R_pivot L_of F_cut F_labelledA F_labelledB F_row A_root A_words A_known G_size G_variable G_low G_high G_numberOf G_nodeOf G_sides G_waiting B_table B_nextTable) 0 0 := by
  refine x_entryv (own := R_R) (nm := "skipBlanks") (by decide) rfl rfl (Nat.le_of_ble_eq_true rfl) (fun p e s m below meth c A ls C0 hw hl => ?_)
  have hx := C0.1
  have hb := C0.2.1
  have hl : lv_has ls 1 [(0, .ref (ad 12))] := hl
  unfold p_R_skipBlanks at h
  obtain ⟨j_5, h⟩ := h
  refine b_R_skipBlanks_L0 C0 _ _ h hw (lv_sub hl [0] rfl)
theorem g_R_takeDigits : GY y_R_takeDigits b_R_takeDigits 1 none 0 := ⟨wm_374, wm_56, by decide +kernel, by decide +kernel, by decide +kernel⟩
def p_R_takeDigits_L5 (T_length : Int32) (T_bytes : Nat → Int32) (R_tokenPlace : Int32) (k88 : Int32 → Int32 → Prop) : Nat → Int32 → Int32 → Prop
  | 0, _, _ => False
  | n + 1, R_at, R_number =>
    ((T_length ≤ R_at → (k88 R_at R_number)) ∧ (¬ T_length ≤ R_at → (p_T_byteAt T_length T_bytes R_at (fun (r_2 : Int32) => (p_R_isDigit r_2 (fun (r_3 : Int32) => ((r_3 = 0 → (k88 R_at R_number)) ∧ (¬ r_3 = 0 → (((3 : Int32) ≤ (R_at - R_tokenPlace) → (p_R_takeDigits_L5 T_length T_bytes R_tokenPlace k88 n (R_at + (1 : Int32)) R_number)) ∧ (¬ (3 : Int32) ≤ (R_at - R_tokenPlace) → (p_T_byteAt T_length T_bytes R_at (fun (r_6 : Int32) => (∀ v_number_7 : Int32, v_number_7 = ((R_number * (10 : Int32)) + (r_6 - (48 : Int32))) → (p_R_takeDigits_L5 T_length T_bytes R_tokenPlace k88 n (R_at + (1 : Int32)) v_number_7))))))))))))))
def p_R_takeDigits (T_length : Int32) (T_bytes : Nat → Int32) (R_at : Int32) (R_tokenPlace : Int32) (k : Int32 → Int32 → Int32 → Prop) : Prop :=
  (∃ j_11, p_R_takeDigits_L5 T_length T_bytes R_tokenPlace (fun (R_at_8 : Int32) (R_number_9 : Int32) => (((3 : Int32) < (R_at_8 - R_tokenPlace) → (k R_at_8 (-3 : Int32) R_number_9)) ∧ (¬ (3 : Int32) < (R_at_8 - R_tokenPlace) → (k R_at_8 (-2 : Int32) R_number_9)))) j_11 R_at (0 : Int32))
abbrev rm_R_takeDigits : Room := { frames := 1, cells := 0, slots := 0, locals := 21 }
set_option maxHeartbeats 4000000 in
set_option maxRecDepth 100000 in
theorem b_R_takeDigits_L5 {p : Program} {l : Launch} {e : Env} {s : State} {m : MethodId} {args : Array Value} {below : List Frame} {meth : Method} {c : Code} {D : va_G} {ca : Nat → ClassId} {tp : Nat} {A : Nat → Prop} {ad : Nat → Nat} {T_length : Int32} {T_bytes : Nat → Int32} {C_size : Int32} {C_given : Int32} {C_empty : Int32} {C_drafted : Int32} {C_draftedGiven : Int32} {C_block : Nat → Int32} {C_left : Nat → Int32} {C_right : Nat → Int32} {C_pivot : Nat → Int32} {C_positive : Nat → Int32} {C_negative : Nat → Int32} {C_live : Nat → Int32} {C_needed : Nat → Int32} {R_kind : Int32} {R_place : Int32} {R_token : Int32} {R_tokenPlace : Int32} {R_state : Int32} {R_block : Int32} {R_positive : Int32} {R_negative : Int32} {R_left : Int32} {R_right : Int32} {R_pivot : Int32} {L_of : Nat → Int32} {F_cut : Int32} {F_labelledA : Int32} {F_labelledB : Int32} {F_row : Nat → Int64} {A_root : Int32} {A_words : Nat → Int64} {A_known : Nat → Int32} {G_size : Int32} {G_variable : Nat → Int32} {G_low : Nat → Int32} {G_high : Nat → Int32} {G_numberOf : Nat → Int32} {G_nodeOf : Nat → Int32} {G_sides : Nat → Int32} {G_waiting : Nat → Int32} {B_table : Nat → Int64} {B_nextTable : Nat → Int64}  {k : Int32 → Int32 → Int32 → Prop} {k88 : Int32 → Int32 → Prop} (C0 : CX p s m args meth c b_R_takeDigits 1 none R_R "takeDigits" D ca tp A) :
    ∀ (n : Nat) (R_at : Int32) (R_number : Int32) {H : Heap} {locs : List Loc} {ls : Array Slot}, p_R_takeDigits_L5 T_length T_bytes R_tokenPlace k88 n R_at R_number → WH D A s (WB ad ca T_length T_bytes C_size C_given C_empty C_drafted C_draftedGiven C_block C_left C_right C_pivot C_positive C_negative C_live C_needed R_kind R_place R_at R_token R_tokenPlace R_number R_state R_block R_positive R_negative R_left R_right R_pivot L_of F_cut F_labelledA F_labelledB F_row A_root A_words A_known G_size G_variable G_low G_high G_numberOf G_nodeOf G_sides G_waiting B_table B_nextTable) H locs → lv_has ls 1 [(0, .ref (ad 12))] →
      (∀ (R_at : Int32) (R_number : Int32) (H : Heap) (locs : List Loc) (ls : Array Slot), k88 R_at R_number → WH D A s (WB ad ca T_length T_bytes C_size C_given C_empty C_drafted C_draftedGiven C_block C_left C_right C_pivot C_positive C_negative C_live C_needed R_kind R_place R_at R_token R_tokenPlace R_number R_state R_block R_positive R_negative R_left R_right R_pivot L_of F_cut F_labelledA F_labelledB F_row A_root A_words A_known G_size G_variable G_low G_high G_numberOf G_nodeOf G_sides G_waiting B_table B_nextTable) H locs → lv_has ls 1 [(0, .ref (ad 12))] → W p l e rm_R_takeDigits s m args below meth c H locs 0 0 (QV D A below args s (fun (u : Int32 × Int32 × Int32) => k u.1 u.2.1 u.2.2) (fun (u : Int32 × Int32 × Int32) => WB ad ca T_length T_bytes C_size C_given C_empty C_drafted C_draftedGiven C_block C_left C_right C_pivot C_positive C_negative C_live C_needed R_kind R_place u.1 u.2.1 R_tokenPlace u.2.2 R_state R_block R_positive R_negative R_left R_right R_pivot L_of F_cut F_labelledA F_labelledB F_row A_root A_words A_known G_size G_variable G_low G_high G_numberOf G_nodeOf G_sides G_waiting B_table B_nextTable) 0 0) (F0 m 88 ls [])) →
      W p l e rm_R_takeDigits s m args below meth c H locs 0 0 (QV D A below args s (fun (u : Int32 × Int32 × Int32) => k u.1 u.2.1 u.2.2) (fun (u : Int32 × Int32 × Int32) => WB ad ca T_length T_bytes C_size C_given C_empty C_drafted C_draftedGiven C_block C_left C_right C_pivot C_positive C_negative C_live C_needed R_kind R_place u.1 u.2.1 R_tokenPlace u.2.2 R_state R_block R_positive R_negative R_left R_right R_pivot L_of F_cut F_labelledA F_labelledB F_row A_root A_words A_known G_size G_variable G_low G_high G_numberOf G_nodeOf G_sides G_waiting B_table B_nextTable) 0 0) (F0 m 5 ls []) := by
  have hx := C0.1
  have hb := C0.2.1
  intro n
  induction n with
  | zero =>
    intro R_at R_number H locs ls h
    exact False.elim h
  | succ n ih =>
    intro R_at R_number H locs ls h hw hl h88
    unfold p_R_takeDigits_L5 at h
    refine lv_aload_n hx hb d_R_takeDigits_5 rfl (lv_at hl 0 rfl) ?_
    refine x_get C0 hw 12 rfl rfl i_R 4 (by decide) wm_169 rfl rfl d_R_takeDigits_6 ?_
    refine lv_aload_n hx hb d_R_takeDigits_9 rfl (lv_at hl 0 rfl) ?_
    refine x_get C0 hw 12 rfl rfl i_R 0 (by decide) wm_163 rfl rfl d_R_takeDigits_10 ?_
    refine x_getN C0 hw 1 rfl rfl i_T 1 (by decide) wm_82 rfl rfl d_R_takeDigits_13 ?_
    refine lv_icmp_ge (tgt := 88) hx hb d_R_takeDigits_16 (by decide) (fun c_1 => ?_) (fun c_1 => ?_)
    · have h := h.1 c_1
      exact h88 _ _ _ _ _ h hw (lv_sub hl [0] rfl)
    · have h := h.2 c_1
      refine lv_aload_n hx hb d_R_takeDigits_19 rfl (lv_at hl 0 rfl) ?_
      refine x_get C0 hw 12 rfl rfl i_R 0 (by decide) wm_163 rfl rfl d_R_takeDigits_20 ?_
      refine lv_aload_n hx hb d_R_takeDigits_23 rfl (lv_at hl 0 rfl) ?_
      refine x_get C0 hw 12 rfl rfl i_R 4 (by decide) wm_169 rfl rfl d_R_takeDigits_24 ?_
      refine x_callVi C0 hw hl (c_T_byteAt h) g_T_byteAt wm_361 ⟨wm_363, wm_362⟩ 1 rfl rfl rfl (As := [.int R_at]) (rest := []) rfl rfl (Nat.le_of_ble_eq_true rfl) ⟨rfl, rfl⟩ ⟨Nat.le_of_ble_eq_true rfl, Nat.le_of_ble_eq_true rfl⟩ ⟨Nat.le_of_ble_eq_true rfl, Nat.le_of_ble_eq_true rfl⟩ d_R_takeDigits_27 (fun r_2 u H locs h hw => ?_)
      refine x_callSi C0 hw hl (c_R_isDigit h) g_R_isDigit wm_368 wm_369 (As := [.int r_2]) (rest := []) rfl rfl (Nat.le_of_ble_eq_true rfl) ⟨rfl, rfl⟩ ⟨Nat.le_of_ble_eq_true rfl, Nat.le_of_ble_eq_true rfl⟩ ⟨Nat.le_of_ble_eq_true rfl, Nat.le_of_ble_eq_true rfl⟩ d_R_takeDigits_30 (fun r_3 u H locs h hw => ?_)
      refine lv_if_eq (tgt := 88) hx hb d_R_takeDigits_33 (by decide) (fun c_4 => ?_) (fun c_4 => ?_)
      · have h := h.1 c_4
        exact h88 _ _ _ _ _ h hw (lv_sub hl [0] rfl)
      · have h := h.2 c_4
        refine lv_aload_n hx hb d_R_takeDigits_36 rfl (lv_at hl 0 rfl) ?_
        refine x_get C0 hw 12 rfl rfl i_R 4 (by decide) wm_169 rfl rfl d_R_takeDigits_37 ?_
        refine lv_aload_n hx hb d_R_takeDigits_40 rfl (lv_at hl 0 rfl) ?_
        refine x_get C0 hw 12 rfl rfl i_R 6 (by decide) wm_171 rfl rfl d_R_takeDigits_41 ?_
        refine lv_isub hx hb d_R_takeDigits_44 ?_
        refine lv_iconst (v := 3) hx hb d_R_takeDigits_45 (by decide) ?_
        refine lv_icmp_ge (tgt := 75) hx hb d_R_takeDigits_46 (by decide) (fun c_5 => ?_) (fun c_5 => ?_)
        · have h := h.1 c_5
          refine lv_aload_n hx hb d_R_takeDigits_75 rfl (lv_at hl 0 rfl) ?_
          refine lv_dup hx hb d_R_takeDigits_76 rfl ?_
          refine x_get C0 hw 12 rfl rfl i_R 4 (by decide) wm_169 rfl rfl d_R_takeDigits_77 ?_
          refine lv_iconst (v := 1) hx hb d_R_takeDigits_80 (by decide) ?_
          refine lv_iadd hx hb d_R_takeDigits_81 ?_
          refine x_put C0 hw 12 rfl rfl i_R tk_R n_R 4 (by decide) wm_169 rfl rfl rfl rfl (Nat.le_of_ble_eq_true rfl) (ws' := WB ad ca T_length T_bytes C_size C_given C_empty C_drafted C_draftedGiven C_block C_left C_right C_pivot C_positive C_negative C_live C_needed R_kind R_place (R_at + (1 : Int32)) R_token R_tokenPlace R_number R_state R_block R_positive R_negative R_left R_right R_pivot L_of F_cut F_labelledA F_labelledB F_row A_root A_words A_known G_size G_variable G_low G_high G_numberOf G_nodeOf G_sides G_waiting B_table B_nextTable) rfl d_R_takeDigits_82 (fun H locs hw => ?_)
          refine lv_goto (tgt := 5) hx hb d_R_takeDigits_85 (by decide) ?_
          exact ih _ _ h hw (lv_sub hl [0] rfl) h88
        · have h := h.2 c_5
          refine lv_aload_n hx hb d_R_takeDigits_49 rfl (lv_at hl 0 rfl) ?_
          refine lv_aload_n hx hb d_R_takeDigits_50 rfl (lv_at hl 0 rfl) ?_
          refine x_get C0 hw 12 rfl rfl i_R 7 (by decide) wm_172 rfl rfl d_R_takeDigits_51 ?_
          refine lv_bipush (v := 10) hx hb d_R_takeDigits_54 (by decide) ?_
          refine lv_imul hx hb d_R_takeDigits_56 ?_
          refine lv_aload_n hx hb d_R_takeDigits_57 rfl (lv_at hl 0 rfl) ?_
          refine x_get C0 hw 12 rfl rfl i_R 0 (by decide) wm_163 rfl rfl d_R_takeDigits_58 ?_
          refine lv_aload_n hx hb d_R_takeDigits_61 rfl (lv_at hl 0 rfl) ?_
          refine x_get C0 hw 12 rfl rfl i_R 4 (by decide) wm_169 rfl rfl d_R_takeDigits_62 ?_
          refine x_callVi C0 hw hl (c_T_byteAt h) g_T_byteAt wm_361 ⟨wm_363, wm_362⟩ 1 rfl rfl rfl (As := [.int R_at]) (rest := [.int (R_number * (10 : Int32)), .ref (ad 12)]) rfl rfl (Nat.le_of_ble_eq_true rfl) ⟨rfl, rfl⟩ ⟨Nat.le_of_ble_eq_true rfl, Nat.le_of_ble_eq_true rfl⟩ ⟨Nat.le_of_ble_eq_true rfl, Nat.le_of_ble_eq_true rfl⟩ d_R_takeDigits_65 (fun r_6 u H locs h hw => ?_)
          refine lv_bipush (v := 48) hx hb d_R_takeDigits_68 (by decide) ?_
          refine lv_isub hx hb d_R_takeDigits_70 ?_
          refine lv_iadd hx hb d_R_takeDigits_71 ?_
          refine lv_topi (fun v_number_7 e_v_number_7 => ?_)
          have h := h v_number_7 e_v_number_7
          refine x_put C0 hw 12 rfl rfl i_R tk_R n_R 7 (by decide) wm_172 rfl rfl rfl rfl (Nat.le_of_ble_eq_true rfl) (ws' := WB ad ca T_length T_bytes C_size C_given C_empty C_drafted C_draftedGiven C_block C_left C_right C_pivot C_positive C_negative C_live C_needed R_kind R_place R_at R_token R_tokenPlace v_number_7 R_state R_block R_positive R_negative R_left R_right R_pivot L_of F_cut F_labelledA F_labelledB F_row A_root A_words A_known G_size G_variable G_low G_high G_numberOf G_nodeOf G_sides G_waiting B_table B_nextTable) rfl d_R_takeDigits_72 (fun H locs hw => ?_)
          refine lv_aload_n hx hb d_R_takeDigits_75 rfl (lv_at hl 0 rfl) ?_
          refine lv_dup hx hb d_R_takeDigits_76 rfl ?_
          refine x_get C0 hw 12 rfl rfl i_R 4 (by decide) wm_169 rfl rfl d_R_takeDigits_77 ?_
          refine lv_iconst (v := 1) hx hb d_R_takeDigits_80 (by decide) ?_
          refine lv_iadd hx hb d_R_takeDigits_81 ?_
          refine x_put C0 hw 12 rfl rfl i_R tk_R n_R 4 (by decide) wm_169 rfl rfl rfl rfl (Nat.le_of_ble_eq_true rfl) (ws' := WB ad ca T_length T_bytes C_size C_given C_empty C_drafted C_draftedGiven C_block C_left C_right C_pivot C_positive C_negative C_live C_needed R_kind R_place (R_at + (1 : Int32)) R_token R_tokenPlace v_number_7 R_state R_block R_positive R_negative R_left R_right R_pivot L_of F_cut F_labelledA F_labelledB F_row A_root A_words A_known G_size G_variable G_low G_high G_numberOf G_nodeOf G_sides G_waiting B_table B_nextTable) rfl d_R_takeDigits_82 (fun H locs hw => ?_)
          refine lv_goto (tgt := 5) hx hb d_R_takeDigits_85 (by decide) ?_
          exact ih _ _ h hw (lv_sub hl [0] rfl) h88
set_option maxHeartbeats 4000000 in
set_option maxRecDepth 100000 in
theorem c_R_takeDigits {l : Launch} {D : va_G} {ca : Nat → ClassId} {tp : Nat} {ad : Nat → Nat} {T_length : Int32} {T_bytes : Nat → Int32} {C_size : Int32} {C_given : Int32} {C_empty : Int32} {C_drafted : Int32} {C_draftedGiven : Int32} {C_block : Nat → Int32} {C_left : Nat → Int32} {C_right : Nat → Int32} {C_pivot : Nat → Int32} {C_positive : Nat → Int32} {C_negative : Nat → Int32} {C_live : Nat → Int32} {C_needed : Nat → Int32} {R_kind : Int32} {R_place : Int32} {R_at : Int32} {R_token : Int32} {R_tokenPlace : Int32} {R_number : Int32} {R_state : Int32} {R_block : Int32} {R_positive : Int32} {R_negative : Int32} {R_left : Int32} {R_right : Int32} {R_pivot : Int32} {L_of : Nat → Int32} {F_cut : Int32} {F_labelledA : Int32} {F_labelledB : Int32} {F_row : Nat → Int64} {A_root : Int32} {A_words : Nat → Int64} {A_known : Nat → Int32} {G_size : Int32} {G_variable : Nat → Int32} {G_low : Nat → Int32} {G_high : Nat → Int32} {G_numberOf : Nat → Int32} {G_nodeOf : Nat → Int32} {G_sides : Nat → Int32} {G_waiting : Nat → Int32} {B_table : Nat → Int64} {B_nextTable : Nat → Int64}  {k : Int32 → Int32 → Int32 → Prop} (h : p_R_takeDigits T_length T_bytes R_at R_tokenPlace k) :
    MTv l y_R_takeDigits b_R_takeDigits 1 none rm_R_takeDigits D ca tp [.ref (ad 12)] (WB ad ca T_length T_bytes C_size C_given C_empty C_drafted C_draftedGiven C_block C_left C_right C_pivot C_positive C_negative C_live C_needed R_kind R_place R_at R_token R_tokenPlace R_number R_state R_block R_positive R_negative R_left R_right R_pivot L_of F_cut F_labelledA F_labelledB F_row A_root A_words A_known G_size G_variable G_low G_high G_numberOf G_nodeOf G_sides G_waiting B_table B_nextTable)
      (fun (u : Int32 × Int32 × Int32) => k u.1 u.2.1 u.2.2)
      (fun (u : Int32 × Int32 × Int32) => WB ad ca T_length T_bytes C_size C_given C_empty C_drafted C_draftedGiven C_block C_left C_right C_pivot C_positive C_negative C_live C_needed R_kind R_place u.1 u.2.1 R_tokenPlace u.2.2 R_state R_block R_positive R_negative R_left R_right R_pivot L_of F_cut F_labelledA F_labelledB F_row A_root A_words A_known G_size G_variable G_low G_high G_numberOf G_nodeOf G_sides G_waiting B_table B_nextTable) 0 0 := by
  refine x_entryv (own := R_R) (nm := "takeDigits") (by decide) rfl rfl (Nat.le_of_ble_eq_true rfl) (fun p e s m below meth c A ls C0 hw hl => ?_)
  have hx := C0.1
  have hb := C0.2.1
  have hl : lv_has ls 1 [(0, .ref (ad 12))] := hl
  unfold p_R_takeDigits at h
  refine lv_aload_n hx hb d_R_takeDigits_0 rfl (lv_at hl 0 rfl) ?_
  refine lv_iconst (v := 0) hx hb d_R_takeDigits_1 (by decide) ?_
  refine x_put C0 hw 12 rfl rfl i_R tk_R n_R 7 (by decide) wm_172 rfl rfl rfl rfl (Nat.le_of_ble_eq_true rfl) (ws' := WB ad ca T_length T_bytes C_size C_given C_empty C_drafted C_draftedGiven C_block C_left C_right C_pivot C_positive C_negative C_live C_needed R_kind R_place R_at R_token R_tokenPlace (0 : Int32) R_state R_block R_positive R_negative R_left R_right R_pivot L_of F_cut F_labelledA F_labelledB F_row A_root A_words A_known G_size G_variable G_low G_high G_numberOf G_nodeOf G_sides G_waiting B_table B_nextTable) rfl d_R_takeDigits_2 (fun H locs hw => ?_)
  obtain ⟨j_11, h⟩ := h
  refine b_R_takeDigits_L5 C0 _ _ _ h hw (lv_sub hl [0] rfl) (fun R_at_8 R_number_9 H locs ls h hw hl => ?_)
  refine lv_aload_n hx hb d_R_takeDigits_88 rfl (lv_at hl 0 rfl) ?_
  refine lv_aload_n hx hb d_R_takeDigits_89 rfl (lv_at hl 0 rfl) ?_
  refine x_get C0 hw 12 rfl rfl i_R 4 (by decide) wm_169 rfl rfl d_R_takeDigits_90 ?_
  refine lv_aload_n hx hb d_R_takeDigits_93 rfl (lv_at hl 0 rfl) ?_
  refine x_get C0 hw 12 rfl rfl i_R 6 (by decide) wm_171 rfl rfl d_R_takeDigits_94 ?_
  refine lv_isub hx hb d_R_takeDigits_97 ?_
  refine lv_iconst (v := 3) hx hb d_R_takeDigits_98 (by decide) ?_
  refine lv_icmp_gt (tgt := 107) hx hb d_R_takeDigits_99 (by decide) (fun c_10 => ?_) (fun c_10 => ?_)
  · have h := h.1 c_10
    refine lv_bipush (v := -3) hx hb d_R_takeDigits_107 (by decide) ?_
    refine x_put C0 hw 12 rfl rfl i_R tk_R n_R 5 (by decide) wm_170 rfl rfl rfl rfl (Nat.le_of_ble_eq_true rfl) (ws' := WB ad ca T_length T_bytes C_size C_given C_empty C_drafted C_draftedGiven C_block C_left C_right C_pivot C_positive C_negative C_live C_needed R_kind R_place R_at_8 (-3 : Int32) R_tokenPlace R_number_9 R_state R_block R_positive R_negative R_left R_right R_pivot L_of F_cut F_labelledA F_labelledB F_row A_root A_words A_known G_size G_variable G_low G_high G_numberOf G_nodeOf G_sides G_waiting B_table B_nextTable) rfl d_R_takeDigits_109 (fun H locs hw => ?_)
    exact x_vret C0 hw (R_at_8, (-3 : Int32), R_number_9) h rfl d_R_takeDigits_112
  · have h := h.2 c_10
    refine lv_bipush (v := -2) hx hb d_R_takeDigits_102 (by decide) ?_
    refine lv_goto (tgt := 109) hx hb d_R_takeDigits_104 (by decide) ?_
    refine x_put C0 hw 12 rfl rfl i_R tk_R n_R 5 (by decide) wm_170 rfl rfl rfl rfl (Nat.le_of_ble_eq_true rfl) (ws' := WB ad ca T_length T_bytes C_size C_given C_empty C_drafted C_draftedGiven C_block C_left C_right C_pivot C_positive C_negative C_live C_needed R_kind R_place R_at_8 (-2 : Int32) R_tokenPlace R_number_9 R_state R_block R_positive R_negative R_left R_right R_pivot L_of F_cut F_labelledA F_labelledB F_row A_root A_words A_known G_size G_variable G_low G_high G_numberOf G_nodeOf G_sides G_waiting B_table B_nextTable) rfl d_R_takeDigits_109 (fun H locs hw => ?_)
    exact x_vret C0 hw (R_at_8, (-2 : Int32), R_number_9) h rfl d_R_takeDigits_112
theorem g_R_nextToken : GY y_R_nextToken b_R_nextToken 2 none 0 := ⟨wm_356, wm_56, by decide +kernel, by decide +kernel, by decide +kernel⟩
def p_R_nextToken (T_length : Int32) (T_bytes : Nat → Int32) (R_at : Int32) (R_number : Int32) (k : Int32 → Int32 → Int32 → Int32 → Prop) : Prop :=
  (p_R_skipBlanks T_length T_bytes R_at (fun (R_at_1 : Int32) => (p_T_byteAt T_length T_bytes R_at_1 (fun (r_3 : Int32) => (p_R_isDigit r_3 (fun (r_4 : Int32) => ((r_4 = 0 → ((¬ r_3 = (-1 : Int32) → (p_R_isSign r_3 (fun (r_7 : Int32) => ((r_7 = 0 → (k (R_at_1 + (1 : Int32)) (-3 : Int32) R_at_1 R_number)) ∧ (¬ r_7 = 0 → (k (R_at_1 + (1 : Int32)) r_3 R_at_1 R_number)))))) ∧ (r_3 = (-1 : Int32) → (k R_at_1 (-1 : Int32) R_at_1 R_number)))) ∧ (¬ r_4 = 0 → (p_R_takeDigits T_length T_bytes R_at_1 R_at_1 (fun (R_at_9 : Int32) (R_token_10 : Int32) (R_number_11 : Int32) => (k R_at_9 R_token_10 R_at_1 R_number_11)))))))))))
abbrev rm_R_nextToken : Room := { frames := 2, cells := 0, slots := 0, locals := 41 }
set_option maxHeartbeats 4000000 in
set_option maxRecDepth 100000 in
theorem c_R_nextToken {l : Launch} {D : va_G} {ca : Nat → ClassId} {tp : Nat} {ad : Nat → Nat} {T_length : Int32} {T_bytes : Nat → Int32} {C_size : Int32} {C_given : Int32} {C_empty : Int32} {C_drafted : Int32} {C_draftedGiven : Int32} {C_block : Nat → Int32} {C_left : Nat → Int32} {C_right : Nat → Int32} {C_pivot : Nat → Int32} {C_positive : Nat → Int32} {C_negative : Nat → Int32} {C_live : Nat → Int32} {C_needed : Nat → Int32} {R_kind : Int32} {R_place : Int32} {R_at : Int32} {R_token : Int32} {R_tokenPlace : Int32} {R_number : Int32} {R_state : Int32} {R_block : Int32} {R_positive : Int32} {R_negative : Int32} {R_left : Int32} {R_right : Int32} {R_pivot : Int32} {L_of : Nat → Int32} {F_cut : Int32} {F_labelledA : Int32} {F_labelledB : Int32} {F_row : Nat → Int64} {A_root : Int32} {A_words : Nat → Int64} {A_known : Nat → Int32} {G_size : Int32} {G_variable : Nat → Int32} {G_low : Nat → Int32} {G_high : Nat → Int32} {G_numberOf : Nat → Int32} {G_nodeOf : Nat → Int32} {G_sides : Nat → Int32} {G_waiting : Nat → Int32} {B_table : Nat → Int64} {B_nextTable : Nat → Int64}  {k : Int32 → Int32 → Int32 → Int32 → Prop} (h : p_R_nextToken T_length T_bytes R_at R_number k) :
    MTv l y_R_nextToken b_R_nextToken 2 none rm_R_nextToken D ca tp [.ref (ad 12)] (WB ad ca T_length T_bytes C_size C_given C_empty C_drafted C_draftedGiven C_block C_left C_right C_pivot C_positive C_negative C_live C_needed R_kind R_place R_at R_token R_tokenPlace R_number R_state R_block R_positive R_negative R_left R_right R_pivot L_of F_cut F_labelledA F_labelledB F_row A_root A_words A_known G_size G_variable G_low G_high G_numberOf G_nodeOf G_sides G_waiting B_table B_nextTable)
      (fun (u : Int32 × Int32 × Int32 × Int32) => k u.1 u.2.1 u.2.2.1 u.2.2.2)
      (fun (u : Int32 × Int32 × Int32 × Int32) => WB ad ca T_length T_bytes C_size C_given C_empty C_drafted C_draftedGiven C_block C_left C_right C_pivot C_positive C_negative C_live C_needed R_kind R_place u.1 u.2.1 u.2.2.1 u.2.2.2 R_state R_block R_positive R_negative R_left R_right R_pivot L_of F_cut F_labelledA F_labelledB F_row A_root A_words A_known G_size G_variable G_low G_high G_numberOf G_nodeOf G_sides G_waiting B_table B_nextTable) 0 0 := by
  refine x_entryv (own := R_R) (nm := "nextToken") (by decide) rfl rfl (Nat.le_of_ble_eq_true rfl) (fun p e s m below meth c A ls C0 hw hl => ?_)
  have hx := C0.1
  have hb := C0.2.1
  have hl : lv_has ls 2 [(0, .ref (ad 12))] := hl
  unfold p_R_nextToken at h
  refine lv_aload_n hx hb d_R_nextToken_0 rfl (lv_at hl 0 rfl) ?_
  refine x_callVv C0 hw hl (c_R_skipBlanks h) g_R_skipBlanks wm_357 ⟨wm_1, wm_359⟩ 12 rfl rfl rfl (As := []) (rest := []) rfl rfl (Nat.le_of_ble_eq_true rfl) ⟨rfl, rfl⟩ ⟨Nat.le_of_ble_eq_true rfl, Nat.le_of_ble_eq_true rfl⟩ ⟨Nat.le_of_ble_eq_true rfl, Nat.le_of_ble_eq_true rfl⟩ d_R_nextToken_1 (fun u H locs h hw => ?_)
  obtain ⟨R_at_1, rfl⟩ : ∃ z, z = u := ⟨_, rfl⟩
  refine lv_aload_n hx hb d_R_nextToken_4 rfl (lv_at hl 0 rfl) ?_
  refine lv_aload_n hx hb d_R_nextToken_5 rfl (lv_at hl 0 rfl) ?_
  refine x_get C0 hw 12 rfl rfl i_R 4 (by decide) wm_169 rfl rfl d_R_nextToken_6 ?_
  refine x_put C0 hw 12 rfl rfl i_R tk_R n_R 6 (by decide) wm_171 rfl rfl rfl rfl (Nat.le_of_ble_eq_true rfl) (ws' := WB ad ca T_length T_bytes C_size C_given C_empty C_drafted C_draftedGiven C_block C_left C_right C_pivot C_positive C_negative C_live C_needed R_kind R_place R_at_1 R_token R_at_1 R_number R_state R_block R_positive R_negative R_left R_right R_pivot L_of F_cut F_labelledA F_labelledB F_row A_root A_words A_known G_size G_variable G_low G_high G_numberOf G_nodeOf G_sides G_waiting B_table B_nextTable) rfl d_R_nextToken_9 (fun H locs hw => ?_)
  refine lv_aload_n hx hb d_R_nextToken_12 rfl (lv_at hl 0 rfl) ?_
  refine x_get C0 hw 12 rfl rfl i_R 0 (by decide) wm_163 rfl rfl d_R_nextToken_13 ?_
  refine lv_aload_n hx hb d_R_nextToken_16 rfl (lv_at hl 0 rfl) ?_
  refine x_get C0 hw 12 rfl rfl i_R 4 (by decide) wm_169 rfl rfl d_R_nextToken_17 ?_
  refine x_callVi C0 hw hl (c_T_byteAt h) g_T_byteAt wm_361 ⟨wm_363, wm_362⟩ 1 rfl rfl rfl (As := [.int R_at_1]) (rest := []) rfl rfl (Nat.le_of_ble_eq_true rfl) ⟨rfl, rfl⟩ ⟨Nat.le_of_ble_eq_true rfl, Nat.le_of_ble_eq_true rfl⟩ ⟨Nat.le_of_ble_eq_true rfl, Nat.le_of_ble_eq_true rfl⟩ d_R_nextToken_20 (fun r_3 u H locs h hw => ?_)
  refine lv_istore_n (lv' := [(1, .int r_3), (0, .ref (ad 12))]) hx hb d_R_nextToken_23 rfl hl (by decide) rfl (fun ls hl => ?_)
  refine lv_iload_n hx hb d_R_nextToken_24 rfl (lv_at hl 0 rfl) ?_
  refine x_callSi C0 hw hl (c_R_isDigit h) g_R_isDigit wm_368 wm_369 (As := [.int r_3]) (rest := []) rfl rfl (Nat.le_of_ble_eq_true rfl) ⟨rfl, rfl⟩ ⟨Nat.le_of_ble_eq_true rfl, Nat.le_of_ble_eq_true rfl⟩ ⟨Nat.le_of_ble_eq_true rfl, Nat.le_of_ble_eq_true rfl⟩ d_R_nextToken_25 (fun r_4 u H locs h hw => ?_)
  refine lv_if_eq (tgt := 38) hx hb d_R_nextToken_28 (by decide) (fun c_5 => ?_) (fun c_5 => ?_)
  · have h := h.1 c_5
    refine lv_iload_n hx hb d_R_nextToken_38 rfl (lv_at hl 0 rfl) ?_
    refine lv_iconst (v := -1) hx hb d_R_nextToken_39 (by decide) ?_
    refine lv_icmp_ne (tgt := 51) hx hb d_R_nextToken_40 (by decide) (fun c_6 => ?_) (fun c_6 => ?_)
    · have h := h.1 c_6
      refine lv_aload_n hx hb d_R_nextToken_51 rfl (lv_at hl 1 rfl) ?_
      refine lv_iload_n hx hb d_R_nextToken_52 rfl (lv_at hl 0 rfl) ?_
      refine x_callSi C0 hw hl (c_R_isSign h) g_R_isSign wm_375 wm_376 (As := [.int r_3]) (rest := [.ref (ad 12)]) rfl rfl (Nat.le_of_ble_eq_true rfl) ⟨rfl, rfl⟩ ⟨Nat.le_of_ble_eq_true rfl, Nat.le_of_ble_eq_true rfl⟩ ⟨Nat.le_of_ble_eq_true rfl, Nat.le_of_ble_eq_true rfl⟩ d_R_nextToken_53 (fun r_7 u H locs h hw => ?_)
      refine lv_if_eq (tgt := 63) hx hb d_R_nextToken_56 (by decide) (fun c_8 => ?_) (fun c_8 => ?_)
      · have h := h.1 c_8
        refine lv_bipush (v := -3) hx hb d_R_nextToken_63 (by decide) ?_
        refine x_put C0 hw 12 rfl rfl i_R tk_R n_R 5 (by decide) wm_170 rfl rfl rfl rfl (Nat.le_of_ble_eq_true rfl) (ws' := WB ad ca T_length T_bytes C_size C_given C_empty C_drafted C_draftedGiven C_block C_left C_right C_pivot C_positive C_negative C_live C_needed R_kind R_place R_at_1 (-3 : Int32) R_at_1 R_number R_state R_block R_positive R_negative R_left R_right R_pivot L_of F_cut F_labelledA F_labelledB F_row A_root A_words A_known G_size G_variable G_low G_high G_numberOf G_nodeOf G_sides G_waiting B_table B_nextTable) rfl d_R_nextToken_65 (fun H locs hw => ?_)
        refine lv_aload_n hx hb d_R_nextToken_68 rfl (lv_at hl 1 rfl) ?_
        refine lv_dup hx hb d_R_nextToken_69 rfl ?_
        refine x_get C0 hw 12 rfl rfl i_R 4 (by decide) wm_169 rfl rfl d_R_nextToken_70 ?_
        refine lv_iconst (v := 1) hx hb d_R_nextToken_73 (by decide) ?_
        refine lv_iadd hx hb d_R_nextToken_74 ?_
        refine x_put C0 hw 12 rfl rfl i_R tk_R n_R 4 (by decide) wm_169 rfl rfl rfl rfl (Nat.le_of_ble_eq_true rfl) (ws' := WB ad ca T_length T_bytes C_size C_given C_empty C_drafted C_draftedGiven C_block C_left C_right C_pivot C_positive C_negative C_live C_needed R_kind R_place (R_at_1 + (1 : Int32)) (-3 : Int32) R_at_1 R_number R_state R_block R_positive R_negative R_left R_right R_pivot L_of F_cut F_labelledA F_labelledB F_row A_root A_words A_known G_size G_variable G_low G_high G_numberOf G_nodeOf G_sides G_waiting B_table B_nextTable) rfl d_R_nextToken_75 (fun H locs hw => ?_)
        exact x_vret C0 hw ((R_at_1 + (1 : Int32)), (-3 : Int32), R_at_1, R_number) h rfl d_R_nextToken_78
      · have h := h.2 c_8
        refine lv_iload_n hx hb d_R_nextToken_59 rfl (lv_at hl 0 rfl) ?_
        refine lv_goto (tgt := 65) hx hb d_R_nextToken_60 (by decide) ?_
        refine x_put C0 hw 12 rfl rfl i_R tk_R n_R 5 (by decide) wm_170 rfl rfl rfl rfl (Nat.le_of_ble_eq_true rfl) (ws' := WB ad ca T_length T_bytes C_size C_given C_empty C_drafted C_draftedGiven C_block C_left C_right C_pivot C_positive C_negative C_live C_needed R_kind R_place R_at_1 r_3 R_at_1 R_number R_state R_block R_positive R_negative R_left R_right R_pivot L_of F_cut F_labelledA F_labelledB F_row A_root A_words A_known G_size G_variable G_low G_high G_numberOf G_nodeOf G_sides G_waiting B_table B_nextTable) rfl d_R_nextToken_65 (fun H locs hw => ?_)
        refine lv_aload_n hx hb d_R_nextToken_68 rfl (lv_at hl 1 rfl) ?_
        refine lv_dup hx hb d_R_nextToken_69 rfl ?_
        refine x_get C0 hw 12 rfl rfl i_R 4 (by decide) wm_169 rfl rfl d_R_nextToken_70 ?_
        refine lv_iconst (v := 1) hx hb d_R_nextToken_73 (by decide) ?_
        refine lv_iadd hx hb d_R_nextToken_74 ?_
        refine x_put C0 hw 12 rfl rfl i_R tk_R n_R 4 (by decide) wm_169 rfl rfl rfl rfl (Nat.le_of_ble_eq_true rfl) (ws' := WB ad ca T_length T_bytes C_size C_given C_empty C_drafted C_draftedGiven C_block C_left C_right C_pivot C_positive C_negative C_live C_needed R_kind R_place (R_at_1 + (1 : Int32)) r_3 R_at_1 R_number R_state R_block R_positive R_negative R_left R_right R_pivot L_of F_cut F_labelledA F_labelledB F_row A_root A_words A_known G_size G_variable G_low G_high G_numberOf G_nodeOf G_sides G_waiting B_table B_nextTable) rfl d_R_nextToken_75 (fun H locs hw => ?_)
        exact x_vret C0 hw ((R_at_1 + (1 : Int32)), r_3, R_at_1, R_number) h rfl d_R_nextToken_78
    · have h := h.2 c_6
      refine lv_aload_n hx hb d_R_nextToken_43 rfl (lv_at hl 1 rfl) ?_
      refine lv_iconst (v := -1) hx hb d_R_nextToken_44 (by decide) ?_
      refine x_put C0 hw 12 rfl rfl i_R tk_R n_R 5 (by decide) wm_170 rfl rfl rfl rfl (Nat.le_of_ble_eq_true rfl) (ws' := WB ad ca T_length T_bytes C_size C_given C_empty C_drafted C_draftedGiven C_block C_left C_right C_pivot C_positive C_negative C_live C_needed R_kind R_place R_at_1 (-1 : Int32) R_at_1 R_number R_state R_block R_positive R_negative R_left R_right R_pivot L_of F_cut F_labelledA F_labelledB F_row A_root A_words A_known G_size G_variable G_low G_high G_numberOf G_nodeOf G_sides G_waiting B_table B_nextTable) rfl d_R_nextToken_45 (fun H locs hw => ?_)
      refine lv_goto (tgt := 78) hx hb d_R_nextToken_48 (by decide) ?_
      exact x_vret C0 hw (R_at_1, (-1 : Int32), R_at_1, R_number) h rfl d_R_nextToken_78
  · have h := h.2 c_5
    refine lv_aload_n hx hb d_R_nextToken_31 rfl (lv_at hl 1 rfl) ?_
    refine x_callVv C0 hw hl (c_R_takeDigits h) g_R_takeDigits wm_371 ⟨wm_2, wm_373⟩ 12 rfl rfl rfl (As := []) (rest := []) rfl rfl (Nat.le_of_ble_eq_true rfl) ⟨rfl, rfl⟩ ⟨Nat.le_of_ble_eq_true rfl, Nat.le_of_ble_eq_true rfl⟩ ⟨Nat.le_of_ble_eq_true rfl, Nat.le_of_ble_eq_true rfl⟩ d_R_nextToken_32 (fun u H locs h hw => ?_)
    obtain ⟨R_at_9, R_token_10, R_number_11⟩ := u
    refine lv_goto (tgt := 78) hx hb d_R_nextToken_35 (by decide) ?_
    exact x_vret C0 hw (R_at_9, R_token_10, R_at_1, R_number_11) h rfl d_R_nextToken_78
theorem g_R_openGiven : GY y_R_openGiven b_R_openGiven 1 none 0 := ⟨wm_389, wm_56, by decide +kernel, by decide +kernel, by decide +kernel⟩
def p_R_openGiven (C_drafted : Int32) (C_draftedGiven : Int32) (R_kind : Int32) (R_place : Int32) (R_tokenPlace : Int32) (R_state : Int32) (k : Int32 → Int32 → Int32 → Prop) : Prop :=
  (p_C_hasRoomForGiven C_drafted C_draftedGiven (fun (r_1 : Int32) => ((r_1 = 0 → (p_R_fail R_tokenPlace (6 : Int32) (fun (R_kind_3 : Int32) (R_place_4 : Int32) => (k R_kind_3 R_place_4 R_state)))) ∧ (¬ r_1 = 0 → (k R_kind R_place (1 : Int32))))))
abbrev rm_R_openGiven : Room := { frames := 2, cells := 0, slots := 0, locals := 40 }
set_option maxHeartbeats 4000000 in
set_option maxRecDepth 100000 in
theorem c_R_openGiven {l : Launch} {D : va_G} {ca : Nat → ClassId} {tp : Nat} {ad : Nat → Nat} {T_length : Int32} {T_bytes : Nat → Int32} {C_size : Int32} {C_given : Int32} {C_empty : Int32} {C_drafted : Int32} {C_draftedGiven : Int32} {C_block : Nat → Int32} {C_left : Nat → Int32} {C_right : Nat → Int32} {C_pivot : Nat → Int32} {C_positive : Nat → Int32} {C_negative : Nat → Int32} {C_live : Nat → Int32} {C_needed : Nat → Int32} {R_kind : Int32} {R_place : Int32} {R_at : Int32} {R_token : Int32} {R_tokenPlace : Int32} {R_number : Int32} {R_state : Int32} {R_block : Int32} {R_positive : Int32} {R_negative : Int32} {R_left : Int32} {R_right : Int32} {R_pivot : Int32} {L_of : Nat → Int32} {F_cut : Int32} {F_labelledA : Int32} {F_labelledB : Int32} {F_row : Nat → Int64} {A_root : Int32} {A_words : Nat → Int64} {A_known : Nat → Int32} {G_size : Int32} {G_variable : Nat → Int32} {G_low : Nat → Int32} {G_high : Nat → Int32} {G_numberOf : Nat → Int32} {G_nodeOf : Nat → Int32} {G_sides : Nat → Int32} {G_waiting : Nat → Int32} {B_table : Nat → Int64} {B_nextTable : Nat → Int64}  {k : Int32 → Int32 → Int32 → Prop} (h : p_R_openGiven C_drafted C_draftedGiven R_kind R_place R_tokenPlace R_state k) :
    MTv l y_R_openGiven b_R_openGiven 1 none rm_R_openGiven D ca tp [.ref (ad 12)] (WB ad ca T_length T_bytes C_size C_given C_empty C_drafted C_draftedGiven C_block C_left C_right C_pivot C_positive C_negative C_live C_needed R_kind R_place R_at R_token R_tokenPlace R_number R_state R_block R_positive R_negative R_left R_right R_pivot L_of F_cut F_labelledA F_labelledB F_row A_root A_words A_known G_size G_variable G_low G_high G_numberOf G_nodeOf G_sides G_waiting B_table B_nextTable)
      (fun (u : Int32 × Int32 × Int32) => k u.1 u.2.1 u.2.2)
      (fun (u : Int32 × Int32 × Int32) => WB ad ca T_length T_bytes C_size C_given C_empty C_drafted C_draftedGiven C_block C_left C_right C_pivot C_positive C_negative C_live C_needed u.1 u.2.1 R_at R_token R_tokenPlace R_number u.2.2 R_block R_positive R_negative R_left R_right R_pivot L_of F_cut F_labelledA F_labelledB F_row A_root A_words A_known G_size G_variable G_low G_high G_numberOf G_nodeOf G_sides G_waiting B_table B_nextTable) 0 0 := by
  refine x_entryv (own := R_R) (nm := "openGiven") (by decide) rfl rfl (Nat.le_of_ble_eq_true rfl) (fun p e s m below meth c A ls C0 hw hl => ?_)
  have hx := C0.1
  have hb := C0.2.1
  have hl : lv_has ls 1 [(0, .ref (ad 12))] := hl
  unfold p_R_openGiven at h
  refine lv_aload_n hx hb d_R_openGiven_0 rfl (lv_at hl 0 rfl) ?_
  refine x_get C0 hw 12 rfl rfl i_R 1 (by decide) wm_164 rfl rfl d_R_openGiven_1 ?_
  refine x_callVi C0 hw hl (c_C_hasRoomForGiven h) g_C_hasRoomForGiven wm_390 ⟨wm_392, wm_391⟩ 3 rfl rfl rfl (As := []) (rest := []) rfl rfl (Nat.le_of_ble_eq_true rfl) ⟨rfl, rfl⟩ ⟨Nat.le_of_ble_eq_true rfl, Nat.le_of_ble_eq_true rfl⟩ ⟨Nat.le_of_ble_eq_true rfl, Nat.le_of_ble_eq_true rfl⟩ d_R_openGiven_4 (fun r_1 u H locs h hw => ?_)
  refine lv_if_eq (tgt := 18) hx hb d_R_openGiven_7 (by decide) (fun c_2 => ?_) (fun c_2 => ?_)
  · have h := h.1 c_2
    refine lv_aload_n hx hb d_R_openGiven_18 rfl (lv_at hl 0 rfl) ?_
    refine lv_bipush (v := 6) hx hb d_R_openGiven_19 (by decide) ?_
    refine x_callVv C0 hw hl (c_R_fail h) g_R_fail wm_398 ⟨wm_6, wm_400⟩ 12 rfl rfl rfl (As := [.int (6 : Int32)]) (rest := []) rfl rfl (Nat.le_of_ble_eq_true rfl) ⟨rfl, rfl⟩ ⟨Nat.le_of_ble_eq_true rfl, Nat.le_of_ble_eq_true rfl⟩ ⟨Nat.le_of_ble_eq_true rfl, Nat.le_of_ble_eq_true rfl⟩ d_R_openGiven_21 (fun u H locs h hw => ?_)
    obtain ⟨R_kind_3, R_place_4⟩ := u
    exact x_vret C0 hw (R_kind_3, R_place_4, R_state) h rfl d_R_openGiven_24
  · have h := h.2 c_2
    refine lv_aload_n hx hb d_R_openGiven_10 rfl (lv_at hl 0 rfl) ?_
    refine lv_iconst (v := 1) hx hb d_R_openGiven_11 (by decide) ?_
    refine x_put C0 hw 12 rfl rfl i_R tk_R n_R 8 (by decide) wm_173 rfl rfl rfl rfl (Nat.le_of_ble_eq_true rfl) (ws' := WB ad ca T_length T_bytes C_size C_given C_empty C_drafted C_draftedGiven C_block C_left C_right C_pivot C_positive C_negative C_live C_needed R_kind R_place R_at R_token R_tokenPlace R_number (1 : Int32) R_block R_positive R_negative R_left R_right R_pivot L_of F_cut F_labelledA F_labelledB F_row A_root A_words A_known G_size G_variable G_low G_high G_numberOf G_nodeOf G_sides G_waiting B_table B_nextTable) rfl d_R_openGiven_12 (fun H locs hw => ?_)
    refine lv_goto (tgt := 24) hx hb d_R_openGiven_15 (by decide) ?_
    exact x_vret C0 hw (R_kind, R_place, (1 : Int32)) h rfl d_R_openGiven_24
theorem g_R_openResolvent : GY y_R_openResolvent b_R_openResolvent 1 none 0 := ⟨wm_405, wm_56, by decide +kernel, by decide +kernel, by decide +kernel⟩
def p_R_openResolvent (C_drafted : Int32) (R_kind : Int32) (R_place : Int32) (R_tokenPlace : Int32) (R_state : Int32) (k : Int32 → Int32 → Int32 → Prop) : Prop :=
  (p_C_hasRoom C_drafted (fun (r_1 : Int32) => ((r_1 = 0 → (p_R_fail R_tokenPlace (6 : Int32) (fun (R_kind_3 : Int32) (R_place_4 : Int32) => (k R_kind_3 R_place_4 R_state)))) ∧ (¬ r_1 = 0 → (k R_kind R_place (5 : Int32))))))
abbrev rm_R_openResolvent : Room := { frames := 1, cells := 0, slots := 0, locals := 21 }
set_option maxHeartbeats 4000000 in
set_option maxRecDepth 100000 in
theorem c_R_openResolvent {l : Launch} {D : va_G} {ca : Nat → ClassId} {tp : Nat} {ad : Nat → Nat} {T_length : Int32} {T_bytes : Nat → Int32} {C_size : Int32} {C_given : Int32} {C_empty : Int32} {C_drafted : Int32} {C_draftedGiven : Int32} {C_block : Nat → Int32} {C_left : Nat → Int32} {C_right : Nat → Int32} {C_pivot : Nat → Int32} {C_positive : Nat → Int32} {C_negative : Nat → Int32} {C_live : Nat → Int32} {C_needed : Nat → Int32} {R_kind : Int32} {R_place : Int32} {R_at : Int32} {R_token : Int32} {R_tokenPlace : Int32} {R_number : Int32} {R_state : Int32} {R_block : Int32} {R_positive : Int32} {R_negative : Int32} {R_left : Int32} {R_right : Int32} {R_pivot : Int32} {L_of : Nat → Int32} {F_cut : Int32} {F_labelledA : Int32} {F_labelledB : Int32} {F_row : Nat → Int64} {A_root : Int32} {A_words : Nat → Int64} {A_known : Nat → Int32} {G_size : Int32} {G_variable : Nat → Int32} {G_low : Nat → Int32} {G_high : Nat → Int32} {G_numberOf : Nat → Int32} {G_nodeOf : Nat → Int32} {G_sides : Nat → Int32} {G_waiting : Nat → Int32} {B_table : Nat → Int64} {B_nextTable : Nat → Int64}  {k : Int32 → Int32 → Int32 → Prop} (h : p_R_openResolvent C_drafted R_kind R_place R_tokenPlace R_state k) :
    MTv l y_R_openResolvent b_R_openResolvent 1 none rm_R_openResolvent D ca tp [.ref (ad 12)] (WB ad ca T_length T_bytes C_size C_given C_empty C_drafted C_draftedGiven C_block C_left C_right C_pivot C_positive C_negative C_live C_needed R_kind R_place R_at R_token R_tokenPlace R_number R_state R_block R_positive R_negative R_left R_right R_pivot L_of F_cut F_labelledA F_labelledB F_row A_root A_words A_known G_size G_variable G_low G_high G_numberOf G_nodeOf G_sides G_waiting B_table B_nextTable)
      (fun (u : Int32 × Int32 × Int32) => k u.1 u.2.1 u.2.2)
      (fun (u : Int32 × Int32 × Int32) => WB ad ca T_length T_bytes C_size C_given C_empty C_drafted C_draftedGiven C_block C_left C_right C_pivot C_positive C_negative C_live C_needed u.1 u.2.1 R_at R_token R_tokenPlace R_number u.2.2 R_block R_positive R_negative R_left R_right R_pivot L_of F_cut F_labelledA F_labelledB F_row A_root A_words A_known G_size G_variable G_low G_high G_numberOf G_nodeOf G_sides G_waiting B_table B_nextTable) 0 0 := by
  refine x_entryv (own := R_R) (nm := "openResolvent") (by decide) rfl rfl (Nat.le_of_ble_eq_true rfl) (fun p e s m below meth c A ls C0 hw hl => ?_)
  have hx := C0.1
  have hb := C0.2.1
  have hl : lv_has ls 1 [(0, .ref (ad 12))] := hl
  unfold p_R_openResolvent at h
  refine lv_aload_n hx hb d_R_openResolvent_0 rfl (lv_at hl 0 rfl) ?_
  refine x_get C0 hw 12 rfl rfl i_R 1 (by decide) wm_164 rfl rfl d_R_openResolvent_1 ?_
  refine x_callVi C0 hw hl (c_C_hasRoom h) g_C_hasRoom wm_406 ⟨wm_396, wm_395⟩ 3 rfl rfl rfl (As := []) (rest := []) rfl rfl (Nat.le_of_ble_eq_true rfl) ⟨rfl, rfl⟩ ⟨Nat.le_of_ble_eq_true rfl, Nat.le_of_ble_eq_true rfl⟩ ⟨Nat.le_of_ble_eq_true rfl, Nat.le_of_ble_eq_true rfl⟩ d_R_openResolvent_4 (fun r_1 u H locs h hw => ?_)
  refine lv_if_eq (tgt := 18) hx hb d_R_openResolvent_7 (by decide) (fun c_2 => ?_) (fun c_2 => ?_)
  · have h := h.1 c_2
    refine lv_aload_n hx hb d_R_openResolvent_18 rfl (lv_at hl 0 rfl) ?_
    refine lv_bipush (v := 6) hx hb d_R_openResolvent_19 (by decide) ?_
    refine x_callVv C0 hw hl (c_R_fail h) g_R_fail wm_398 ⟨wm_6, wm_400⟩ 12 rfl rfl rfl (As := [.int (6 : Int32)]) (rest := []) rfl rfl (Nat.le_of_ble_eq_true rfl) ⟨rfl, rfl⟩ ⟨Nat.le_of_ble_eq_true rfl, Nat.le_of_ble_eq_true rfl⟩ ⟨Nat.le_of_ble_eq_true rfl, Nat.le_of_ble_eq_true rfl⟩ d_R_openResolvent_21 (fun u H locs h hw => ?_)
    obtain ⟨R_kind_3, R_place_4⟩ := u
    exact x_vret C0 hw (R_kind_3, R_place_4, R_state) h rfl d_R_openResolvent_24
  · have h := h.2 c_2
    refine lv_aload_n hx hb d_R_openResolvent_10 rfl (lv_at hl 0 rfl) ?_
    refine lv_iconst (v := 5) hx hb d_R_openResolvent_11 (by decide) ?_
    refine x_put C0 hw 12 rfl rfl i_R tk_R n_R 8 (by decide) wm_173 rfl rfl rfl rfl (Nat.le_of_ble_eq_true rfl) (ws' := WB ad ca T_length T_bytes C_size C_given C_empty C_drafted C_draftedGiven C_block C_left C_right C_pivot C_positive C_negative C_live C_needed R_kind R_place R_at R_token R_tokenPlace R_number (5 : Int32) R_block R_positive R_negative R_left R_right R_pivot L_of F_cut F_labelledA F_labelledB F_row A_root A_words A_known G_size G_variable G_low G_high G_numberOf G_nodeOf G_sides G_waiting B_table B_nextTable) rfl d_R_openResolvent_12 (fun H locs hw => ?_)
    refine lv_goto (tgt := 24) hx hb d_R_openResolvent_15 (by decide) ?_
    exact x_vret C0 hw (R_kind, R_place, (5 : Int32)) h rfl d_R_openResolvent_24
theorem g_R_takeStart : GY y_R_takeStart b_R_takeStart 1 none 0 := ⟨wm_385, wm_56, by decide +kernel, by decide +kernel, by decide +kernel⟩
def p_R_takeStart (C_drafted : Int32) (C_draftedGiven : Int32) (R_kind : Int32) (R_place : Int32) (R_token : Int32) (R_tokenPlace : Int32) (R_state : Int32) (k : Int32 → Int32 → Int32 → Prop) : Prop :=
  ((¬ R_token = (99 : Int32) → ((¬ R_token = (114 : Int32) → ((R_token = (-1 : Int32) → (k R_kind R_place R_state)) ∧ (¬ R_token = (-1 : Int32) → (p_R_fail R_tokenPlace (1 : Int32) (fun (R_kind_4 : Int32) (R_place_5 : Int32) => (k R_kind_4 R_place_5 R_state)))))) ∧ (R_token = (114 : Int32) → (p_R_openResolvent C_drafted R_kind R_place R_tokenPlace R_state (fun (R_kind_7 : Int32) (R_place_8 : Int32) (R_state_9 : Int32) => (k R_kind_7 R_place_8 R_state_9)))))) ∧ (R_token = (99 : Int32) → (p_R_openGiven C_drafted C_draftedGiven R_kind R_place R_tokenPlace R_state (fun (R_kind_11 : Int32) (R_place_12 : Int32) (R_state_13 : Int32) => (k R_kind_11 R_place_12 R_state_13)))))
abbrev rm_R_takeStart : Room := { frames := 3, cells := 0, slots := 0, locals := 60 }
set_option maxHeartbeats 4000000 in
set_option maxRecDepth 100000 in
theorem c_R_takeStart {l : Launch} {D : va_G} {ca : Nat → ClassId} {tp : Nat} {ad : Nat → Nat} {T_length : Int32} {T_bytes : Nat → Int32} {C_size : Int32} {C_given : Int32} {C_empty : Int32} {C_drafted : Int32} {C_draftedGiven : Int32} {C_block : Nat → Int32} {C_left : Nat → Int32} {C_right : Nat → Int32} {C_pivot : Nat → Int32} {C_positive : Nat → Int32} {C_negative : Nat → Int32} {C_live : Nat → Int32} {C_needed : Nat → Int32} {R_kind : Int32} {R_place : Int32} {R_at : Int32} {R_token : Int32} {R_tokenPlace : Int32} {R_number : Int32} {R_state : Int32} {R_block : Int32} {R_positive : Int32} {R_negative : Int32} {R_left : Int32} {R_right : Int32} {R_pivot : Int32} {L_of : Nat → Int32} {F_cut : Int32} {F_labelledA : Int32} {F_labelledB : Int32} {F_row : Nat → Int64} {A_root : Int32} {A_words : Nat → Int64} {A_known : Nat → Int32} {G_size : Int32} {G_variable : Nat → Int32} {G_low : Nat → Int32} {G_high : Nat → Int32} {G_numberOf : Nat → Int32} {G_nodeOf : Nat → Int32} {G_sides : Nat → Int32} {G_waiting : Nat → Int32} {B_table : Nat → Int64} {B_nextTable : Nat → Int64}  {k : Int32 → Int32 → Int32 → Prop} (h : p_R_takeStart C_drafted C_draftedGiven R_kind R_place R_token R_tokenPlace R_state k) :
    MTv l y_R_takeStart b_R_takeStart 1 none rm_R_takeStart D ca tp [.ref (ad 12)] (WB ad ca T_length T_bytes C_size C_given C_empty C_drafted C_draftedGiven C_block C_left C_right C_pivot C_positive C_negative C_live C_needed R_kind R_place R_at R_token R_tokenPlace R_number R_state R_block R_positive R_negative R_left R_right R_pivot L_of F_cut F_labelledA F_labelledB F_row A_root A_words A_known G_size G_variable G_low G_high G_numberOf G_nodeOf G_sides G_waiting B_table B_nextTable)
      (fun (u : Int32 × Int32 × Int32) => k u.1 u.2.1 u.2.2)
      (fun (u : Int32 × Int32 × Int32) => WB ad ca T_length T_bytes C_size C_given C_empty C_drafted C_draftedGiven C_block C_left C_right C_pivot C_positive C_negative C_live C_needed u.1 u.2.1 R_at R_token R_tokenPlace R_number u.2.2 R_block R_positive R_negative R_left R_right R_pivot L_of F_cut F_labelledA F_labelledB F_row A_root A_words A_known G_size G_variable G_low G_high G_numberOf G_nodeOf G_sides G_waiting B_table B_nextTable) 0 0 := by
  refine x_entryv (own := R_R) (nm := "takeStart") (by decide) rfl rfl (Nat.le_of_ble_eq_true rfl) (fun p e s m below meth c A ls C0 hw hl => ?_)
  have hx := C0.1
  have hb := C0.2.1
  have hl : lv_has ls 1 [(0, .ref (ad 12))] := hl
  unfold p_R_takeStart at h
  refine lv_aload_n hx hb d_R_takeStart_0 rfl (lv_at hl 0 rfl) ?_
  refine x_get C0 hw 12 rfl rfl i_R 5 (by decide) wm_170 rfl rfl d_R_takeStart_1 ?_
  refine lv_bipush (v := 99) hx hb d_R_takeStart_4 (by decide) ?_
  refine lv_icmp_ne (tgt := 16) hx hb d_R_takeStart_6 (by decide) (fun c_1 => ?_) (fun c_1 => ?_)
  · have h := h.1 c_1
    refine lv_aload_n hx hb d_R_takeStart_16 rfl (lv_at hl 0 rfl) ?_
    refine x_get C0 hw 12 rfl rfl i_R 5 (by decide) wm_170 rfl rfl d_R_takeStart_17 ?_
    refine lv_bipush (v := 114) hx hb d_R_takeStart_20 (by decide) ?_
    refine lv_icmp_ne (tgt := 32) hx hb d_R_takeStart_22 (by decide) (fun c_2 => ?_) (fun c_2 => ?_)
    · have h := h.1 c_2
      refine lv_aload_n hx hb d_R_takeStart_32 rfl (lv_at hl 0 rfl) ?_
      refine x_get C0 hw 12 rfl rfl i_R 5 (by decide) wm_170 rfl rfl d_R_takeStart_33 ?_
      refine lv_iconst (v := -1) hx hb d_R_takeStart_36 (by decide) ?_
      refine lv_icmp_eq (tgt := 45) hx hb d_R_takeStart_37 (by decide) (fun c_3 => ?_) (fun c_3 => ?_)
      · have h := h.1 c_3
        exact x_vret C0 hw (R_kind, R_place, R_state) h rfl d_R_takeStart_45
      · have h := h.2 c_3
        refine lv_aload_n hx hb d_R_takeStart_40 rfl (lv_at hl 0 rfl) ?_
        refine lv_iconst (v := 1) hx hb d_R_takeStart_41 (by decide) ?_
        refine x_callVv C0 hw hl (c_R_fail h) g_R_fail wm_398 ⟨wm_6, wm_400⟩ 12 rfl rfl rfl (As := [.int (1 : Int32)]) (rest := []) rfl rfl (Nat.le_of_ble_eq_true rfl) ⟨rfl, rfl⟩ ⟨Nat.le_of_ble_eq_true rfl, Nat.le_of_ble_eq_true rfl⟩ ⟨Nat.le_of_ble_eq_true rfl, Nat.le_of_ble_eq_true rfl⟩ d_R_takeStart_42 (fun u H locs h hw => ?_)
        obtain ⟨R_kind_4, R_place_5⟩ := u
        exact x_vret C0 hw (R_kind_4, R_place_5, R_state) h rfl d_R_takeStart_45
    · have h := h.2 c_2
      refine lv_aload_n hx hb d_R_takeStart_25 rfl (lv_at hl 0 rfl) ?_
      refine x_callVv C0 hw hl (c_R_openResolvent h) g_R_openResolvent wm_402 ⟨wm_7, wm_404⟩ 12 rfl rfl rfl (As := []) (rest := []) rfl rfl (Nat.le_of_ble_eq_true rfl) ⟨rfl, rfl⟩ ⟨Nat.le_of_ble_eq_true rfl, Nat.le_of_ble_eq_true rfl⟩ ⟨Nat.le_of_ble_eq_true rfl, Nat.le_of_ble_eq_true rfl⟩ d_R_takeStart_26 (fun u H locs h hw => ?_)
      obtain ⟨R_kind_7, R_place_8, R_state_9⟩ := u
      refine lv_goto (tgt := 45) hx hb d_R_takeStart_29 (by decide) ?_
      exact x_vret C0 hw (R_kind_7, R_place_8, R_state_9) h rfl d_R_takeStart_45
  · have h := h.2 c_1
    refine lv_aload_n hx hb d_R_takeStart_9 rfl (lv_at hl 0 rfl) ?_
    refine x_callVv C0 hw hl (c_R_openGiven h) g_R_openGiven wm_386 ⟨wm_5, wm_388⟩ 12 rfl rfl rfl (As := []) (rest := []) rfl rfl (Nat.le_of_ble_eq_true rfl) ⟨rfl, rfl⟩ ⟨Nat.le_of_ble_eq_true rfl, Nat.le_of_ble_eq_true rfl⟩ ⟨Nat.le_of_ble_eq_true rfl, Nat.le_of_ble_eq_true rfl⟩ d_R_takeStart_10 (fun u H locs h hw => ?_)
    obtain ⟨R_kind_11, R_place_12, R_state_13⟩ := u
    refine lv_goto (tgt := 45) hx hb d_R_takeStart_13 (by decide) ?_
    exact x_vret C0 hw (R_kind_11, R_place_12, R_state_13) h rfl d_R_takeStart_45
theorem g_R_takeColon : GY y_R_takeColon b_R_takeColon 1 none 0 := ⟨wm_410, wm_56, by decide +kernel, by decide +kernel, by decide +kernel⟩
def p_R_takeColon (R_kind : Int32) (R_place : Int32) (R_token : Int32) (R_tokenPlace : Int32) (R_state : Int32) (R_positive : Int32) (R_negative : Int32) (k : Int32 → Int32 → Int32 → Int32 → Int32 → Prop) : Prop :=
  ((¬ R_token = (58 : Int32) → (p_R_fail R_tokenPlace (1 : Int32) (fun (R_kind_2 : Int32) (R_place_3 : Int32) => (k R_kind_2 R_place_3 R_state R_positive R_negative)))) ∧ (R_token = (58 : Int32) → (k R_kind R_place (3 : Int32) (0 : Int32) (0 : Int32))))
abbrev rm_R_takeColon : Room := { frames := 1, cells := 0, slots := 0, locals := 21 }
set_option maxHeartbeats 4000000 in
set_option maxRecDepth 100000 in
theorem c_R_takeColon {l : Launch} {D : va_G} {ca : Nat → ClassId} {tp : Nat} {ad : Nat → Nat} {T_length : Int32} {T_bytes : Nat → Int32} {C_size : Int32} {C_given : Int32} {C_empty : Int32} {C_drafted : Int32} {C_draftedGiven : Int32} {C_block : Nat → Int32} {C_left : Nat → Int32} {C_right : Nat → Int32} {C_pivot : Nat → Int32} {C_positive : Nat → Int32} {C_negative : Nat → Int32} {C_live : Nat → Int32} {C_needed : Nat → Int32} {R_kind : Int32} {R_place : Int32} {R_at : Int32} {R_token : Int32} {R_tokenPlace : Int32} {R_number : Int32} {R_state : Int32} {R_block : Int32} {R_positive : Int32} {R_negative : Int32} {R_left : Int32} {R_right : Int32} {R_pivot : Int32} {L_of : Nat → Int32} {F_cut : Int32} {F_labelledA : Int32} {F_labelledB : Int32} {F_row : Nat → Int64} {A_root : Int32} {A_words : Nat → Int64} {A_known : Nat → Int32} {G_size : Int32} {G_variable : Nat → Int32} {G_low : Nat → Int32} {G_high : Nat → Int32} {G_numberOf : Nat → Int32} {G_nodeOf : Nat → Int32} {G_sides : Nat → Int32} {G_waiting : Nat → Int32} {B_table : Nat → Int64} {B_nextTable : Nat → Int64}  {k : Int32 → Int32 → Int32 → Int32 → Int32 → Prop} (h : p_R_takeColon R_kind R_place R_token R_tokenPlace R_state R_positive R_negative k) :
    MTv l y_R_takeColon b_R_takeColon 1 none rm_R_takeColon D ca tp [.ref (ad 12)] (WB ad ca T_length T_bytes C_size C_given C_empty C_drafted C_draftedGiven C_block C_left C_right C_pivot C_positive C_negative C_live C_needed R_kind R_place R_at R_token R_tokenPlace R_number R_state R_block R_positive R_negative R_left R_right R_pivot L_of F_cut F_labelledA F_labelledB F_row A_root A_words A_known G_size G_variable G_low G_high G_numberOf G_nodeOf G_sides G_waiting B_table B_nextTable)
      (fun (u : Int32 × Int32 × Int32 × Int32 × Int32) => k u.1 u.2.1 u.2.2.1 u.2.2.2.1 u.2.2.2.2)
      (fun (u : Int32 × Int32 × Int32 × Int32 × Int32) => WB ad ca T_length T_bytes C_size C_given C_empty C_drafted C_draftedGiven C_block C_left C_right C_pivot C_positive C_negative C_live C_needed u.1 u.2.1 R_at R_token R_tokenPlace R_number u.2.2.1 R_block u.2.2.2.1 u.2.2.2.2 R_left R_right R_pivot L_of F_cut F_labelledA F_labelledB F_row A_root A_words A_known G_size G_variable G_low G_high G_numberOf G_nodeOf G_sides G_waiting B_table B_nextTable) 0 0 := by
  refine x_entryv (own := R_R) (nm := "takeColon") (by decide) rfl rfl (Nat.le_of_ble_eq_true rfl) (fun p e s m below meth c A ls C0 hw hl => ?_)
  have hx := C0.1
  have hb := C0.2.1
  have hl : lv_has ls 1 [(0, .ref (ad 12))] := hl
  unfold p_R_takeColon at h
  refine lv_aload_n hx hb d_R_takeColon_0 rfl (lv_at hl 0 rfl) ?_
  refine x_get C0 hw 12 rfl rfl i_R 5 (by decide) wm_170 rfl rfl d_R_takeColon_1 ?_
  refine lv_bipush (v := 58) hx hb d_R_takeColon_4 (by decide) ?_
  refine lv_icmp_ne (tgt := 27) hx hb d_R_takeColon_6 (by decide) (fun c_1 => ?_) (fun c_1 => ?_)
  · have h := h.1 c_1
    refine lv_aload_n hx hb d_R_takeColon_27 rfl (lv_at hl 0 rfl) ?_
    refine lv_iconst (v := 1) hx hb d_R_takeColon_28 (by decide) ?_
    refine x_callVv C0 hw hl (c_R_fail h) g_R_fail wm_398 ⟨wm_6, wm_400⟩ 12 rfl rfl rfl (As := [.int (1 : Int32)]) (rest := []) rfl rfl (Nat.le_of_ble_eq_true rfl) ⟨rfl, rfl⟩ ⟨Nat.le_of_ble_eq_true rfl, Nat.le_of_ble_eq_true rfl⟩ ⟨Nat.le_of_ble_eq_true rfl, Nat.le_of_ble_eq_true rfl⟩ d_R_takeColon_29 (fun u H locs h hw => ?_)
    obtain ⟨R_kind_2, R_place_3⟩ := u
    exact x_vret C0 hw (R_kind_2, R_place_3, R_state, R_positive, R_negative) h rfl d_R_takeColon_32
  · have h := h.2 c_1
    refine lv_aload_n hx hb d_R_takeColon_9 rfl (lv_at hl 0 rfl) ?_
    refine lv_iconst (v := 0) hx hb d_R_takeColon_10 (by decide) ?_
    refine x_put C0 hw 12 rfl rfl i_R tk_R n_R 10 (by decide) wm_175 rfl rfl rfl rfl (Nat.le_of_ble_eq_true rfl) (ws' := WB ad ca T_length T_bytes C_size C_given C_empty C_drafted C_draftedGiven C_block C_left C_right C_pivot C_positive C_negative C_live C_needed R_kind R_place R_at R_token R_tokenPlace R_number R_state R_block (0 : Int32) R_negative R_left R_right R_pivot L_of F_cut F_labelledA F_labelledB F_row A_root A_words A_known G_size G_variable G_low G_high G_numberOf G_nodeOf G_sides G_waiting B_table B_nextTable) rfl d_R_takeColon_11 (fun H locs hw => ?_)
    refine lv_aload_n hx hb d_R_takeColon_14 rfl (lv_at hl 0 rfl) ?_
    refine lv_iconst (v := 0) hx hb d_R_takeColon_15 (by decide) ?_
    refine x_put C0 hw 12 rfl rfl i_R tk_R n_R 11 (by decide) wm_176 rfl rfl rfl rfl (Nat.le_of_ble_eq_true rfl) (ws' := WB ad ca T_length T_bytes C_size C_given C_empty C_drafted C_draftedGiven C_block C_left C_right C_pivot C_positive C_negative C_live C_needed R_kind R_place R_at R_token R_tokenPlace R_number R_state R_block (0 : Int32) (0 : Int32) R_left R_right R_pivot L_of F_cut F_labelledA F_labelledB F_row A_root A_words A_known G_size G_variable G_low G_high G_numberOf G_nodeOf G_sides G_waiting B_table B_nextTable) rfl d_R_takeColon_16 (fun H locs hw => ?_)
    refine lv_aload_n hx hb d_R_takeColon_19 rfl (lv_at hl 0 rfl) ?_
    refine lv_iconst (v := 3) hx hb d_R_takeColon_20 (by decide) ?_
    refine x_put C0 hw 12 rfl rfl i_R tk_R n_R 8 (by decide) wm_173 rfl rfl rfl rfl (Nat.le_of_ble_eq_true rfl) (ws' := WB ad ca T_length T_bytes C_size C_given C_empty C_drafted C_draftedGiven C_block C_left C_right C_pivot C_positive C_negative C_live C_needed R_kind R_place R_at R_token R_tokenPlace R_number (3 : Int32) R_block (0 : Int32) (0 : Int32) R_left R_right R_pivot L_of F_cut F_labelledA F_labelledB F_row A_root A_words A_known G_size G_variable G_low G_high G_numberOf G_nodeOf G_sides G_waiting B_table B_nextTable) rfl d_R_takeColon_21 (fun H locs hw => ?_)
    refine lv_goto (tgt := 32) hx hb d_R_takeColon_24 (by decide) ?_
    exact x_vret C0 hw (R_kind, R_place, (3 : Int32), (0 : Int32), (0 : Int32)) h rfl d_R_takeColon_32
theorem g_R_takeBlock : GY y_R_takeBlock b_R_takeBlock 1 none 0 := ⟨wm_431, wm_56, by decide +kernel, by decide +kernel, by decide +kernel⟩
def p_R_takeBlock (R_kind : Int32) (R_place : Int32) (R_tokenPlace : Int32) (R_number : Int32) (R_state : Int32) (R_block : Int32) (k : Int32 → Int32 → Int32 → Int32 → Prop) : Prop :=
  ((R_number < (1 : Int32) → (p_R_fail R_tokenPlace (2 : Int32) (fun (R_kind_2 : Int32) (R_place_3 : Int32) => (k R_kind_2 R_place_3 R_state R_block)))) ∧ (¬ R_number < (1 : Int32) → ((R_number ≤ (8 : Int32) → (k R_kind R_place (2 : Int32) R_number)) ∧ (¬ R_number ≤ (8 : Int32) → (p_R_fail R_tokenPlace (2 : Int32) (fun (R_kind_6 : Int32) (R_place_7 : Int32) => (k R_kind_6 R_place_7 R_state R_block)))))))
abbrev rm_R_takeBlock : Room := { frames := 1, cells := 0, slots := 0, locals := 21 }
set_option maxHeartbeats 4000000 in
set_option maxRecDepth 100000 in
theorem c_R_takeBlock {l : Launch} {D : va_G} {ca : Nat → ClassId} {tp : Nat} {ad : Nat → Nat} {T_length : Int32} {T_bytes : Nat → Int32} {C_size : Int32} {C_given : Int32} {C_empty : Int32} {C_drafted : Int32} {C_draftedGiven : Int32} {C_block : Nat → Int32} {C_left : Nat → Int32} {C_right : Nat → Int32} {C_pivot : Nat → Int32} {C_positive : Nat → Int32} {C_negative : Nat → Int32} {C_live : Nat → Int32} {C_needed : Nat → Int32} {R_kind : Int32} {R_place : Int32} {R_at : Int32} {R_token : Int32} {R_tokenPlace : Int32} {R_number : Int32} {R_state : Int32} {R_block : Int32} {R_positive : Int32} {R_negative : Int32} {R_left : Int32} {R_right : Int32} {R_pivot : Int32} {L_of : Nat → Int32} {F_cut : Int32} {F_labelledA : Int32} {F_labelledB : Int32} {F_row : Nat → Int64} {A_root : Int32} {A_words : Nat → Int64} {A_known : Nat → Int32} {G_size : Int32} {G_variable : Nat → Int32} {G_low : Nat → Int32} {G_high : Nat → Int32} {G_numberOf : Nat → Int32} {G_nodeOf : Nat → Int32} {G_sides : Nat → Int32} {G_waiting : Nat → Int32} {B_table : Nat → Int64} {B_nextTable : Nat → Int64}  {k : Int32 → Int32 → Int32 → Int32 → Prop} (h : p_R_takeBlock R_kind R_place R_tokenPlace R_number R_state R_block k) :
    MTv l y_R_takeBlock b_R_takeBlock 1 none rm_R_takeBlock D ca tp [.ref (ad 12)] (WB ad ca T_length T_bytes C_size C_given C_empty C_drafted C_draftedGiven C_block C_left C_right C_pivot C_positive C_negative C_live C_needed R_kind R_place R_at R_token R_tokenPlace R_number R_state R_block R_positive R_negative R_left R_right R_pivot L_of F_cut F_labelledA F_labelledB F_row A_root A_words A_known G_size G_variable G_low G_high G_numberOf G_nodeOf G_sides G_waiting B_table B_nextTable)
      (fun (u : Int32 × Int32 × Int32 × Int32) => k u.1 u.2.1 u.2.2.1 u.2.2.2)
      (fun (u : Int32 × Int32 × Int32 × Int32) => WB ad ca T_length T_bytes C_size C_given C_empty C_drafted C_draftedGiven C_block C_left C_right C_pivot C_positive C_negative C_live C_needed u.1 u.2.1 R_at R_token R_tokenPlace R_number u.2.2.1 u.2.2.2 R_positive R_negative R_left R_right R_pivot L_of F_cut F_labelledA F_labelledB F_row A_root A_words A_known G_size G_variable G_low G_high G_numberOf G_nodeOf G_sides G_waiting B_table B_nextTable) 0 0 := by
  refine x_entryv (own := R_R) (nm := "takeBlock") (by decide) rfl rfl (Nat.le_of_ble_eq_true rfl) (fun p e s m below meth c A ls C0 hw hl => ?_)
  have hx := C0.1
  have hb := C0.2.1
  have hl : lv_has ls 1 [(0, .ref (ad 12))] := hl
  unfold p_R_takeBlock at h
  refine lv_aload_n hx hb d_R_takeBlock_0 rfl (lv_at hl 0 rfl) ?_
  refine x_get C0 hw 12 rfl rfl i_R 7 (by decide) wm_172 rfl rfl d_R_takeBlock_1 ?_
  refine lv_iconst (v := 1) hx hb d_R_takeBlock_4 (by decide) ?_
  refine lv_icmp_lt (tgt := 17) hx hb d_R_takeBlock_5 (by decide) (fun c_1 => ?_) (fun c_1 => ?_)
  · have h := h.1 c_1
    refine lv_aload_n hx hb d_R_takeBlock_17 rfl (lv_at hl 0 rfl) ?_
    refine lv_iconst (v := 2) hx hb d_R_takeBlock_18 (by decide) ?_
    refine x_callVv C0 hw hl (c_R_fail h) g_R_fail wm_398 ⟨wm_6, wm_400⟩ 12 rfl rfl rfl (As := [.int (2 : Int32)]) (rest := []) rfl rfl (Nat.le_of_ble_eq_true rfl) ⟨rfl, rfl⟩ ⟨Nat.le_of_ble_eq_true rfl, Nat.le_of_ble_eq_true rfl⟩ ⟨Nat.le_of_ble_eq_true rfl, Nat.le_of_ble_eq_true rfl⟩ d_R_takeBlock_19 (fun u H locs h hw => ?_)
    obtain ⟨R_kind_2, R_place_3⟩ := u
    exact x_vret C0 hw (R_kind_2, R_place_3, R_state, R_block) h rfl d_R_takeBlock_22
  · have h := h.2 c_1
    refine lv_aload_n hx hb d_R_takeBlock_8 rfl (lv_at hl 0 rfl) ?_
    refine x_get C0 hw 12 rfl rfl i_R 7 (by decide) wm_172 rfl rfl d_R_takeBlock_9 ?_
    refine lv_bipush (v := 8) hx hb d_R_takeBlock_12 (by decide) ?_
    refine lv_icmp_le (tgt := 23) hx hb d_R_takeBlock_14 (by decide) (fun c_5 => ?_) (fun c_5 => ?_)
    · have h := h.1 c_5
      refine lv_aload_n hx hb d_R_takeBlock_23 rfl (lv_at hl 0 rfl) ?_
      refine lv_aload_n hx hb d_R_takeBlock_24 rfl (lv_at hl 0 rfl) ?_
      refine x_get C0 hw 12 rfl rfl i_R 7 (by decide) wm_172 rfl rfl d_R_takeBlock_25 ?_
      refine x_put C0 hw 12 rfl rfl i_R tk_R n_R 9 (by decide) wm_174 rfl rfl rfl rfl (Nat.le_of_ble_eq_true rfl) (ws' := WB ad ca T_length T_bytes C_size C_given C_empty C_drafted C_draftedGiven C_block C_left C_right C_pivot C_positive C_negative C_live C_needed R_kind R_place R_at R_token R_tokenPlace R_number R_state R_number R_positive R_negative R_left R_right R_pivot L_of F_cut F_labelledA F_labelledB F_row A_root A_words A_known G_size G_variable G_low G_high G_numberOf G_nodeOf G_sides G_waiting B_table B_nextTable) rfl d_R_takeBlock_28 (fun H locs hw => ?_)
      refine lv_aload_n hx hb d_R_takeBlock_31 rfl (lv_at hl 0 rfl) ?_
      refine lv_iconst (v := 2) hx hb d_R_takeBlock_32 (by decide) ?_
      refine x_put C0 hw 12 rfl rfl i_R tk_R n_R 8 (by decide) wm_173 rfl rfl rfl rfl (Nat.le_of_ble_eq_true rfl) (ws' := WB ad ca T_length T_bytes C_size C_given C_empty C_drafted C_draftedGiven C_block C_left C_right C_pivot C_positive C_negative C_live C_needed R_kind R_place R_at R_token R_tokenPlace R_number (2 : Int32) R_number R_positive R_negative R_left R_right R_pivot L_of F_cut F_labelledA F_labelledB F_row A_root A_words A_known G_size G_variable G_low G_high G_numberOf G_nodeOf G_sides G_waiting B_table B_nextTable) rfl d_R_takeBlock_33 (fun H locs hw => ?_)
      exact x_vret C0 hw (R_kind, R_place, (2 : Int32), R_number) h rfl d_R_takeBlock_36
    · have h := h.2 c_5
      refine lv_aload_n hx hb d_R_takeBlock_17 rfl (lv_at hl 0 rfl) ?_
      refine lv_iconst (v := 2) hx hb d_R_takeBlock_18 (by decide) ?_
      refine x_callVv C0 hw hl (c_R_fail h) g_R_fail wm_398 ⟨wm_6, wm_400⟩ 12 rfl rfl rfl (As := [.int (2 : Int32)]) (rest := []) rfl rfl (Nat.le_of_ble_eq_true rfl) ⟨rfl, rfl⟩ ⟨Nat.le_of_ble_eq_true rfl, Nat.le_of_ble_eq_true rfl⟩ ⟨Nat.le_of_ble_eq_true rfl, Nat.le_of_ble_eq_true rfl⟩ d_R_takeBlock_19 (fun u H locs h hw => ?_)
      obtain ⟨R_kind_6, R_place_7⟩ := u
      exact x_vret C0 hw (R_kind_6, R_place_7, R_state, R_block) h rfl d_R_takeBlock_22
theorem g_R_takeLiteral : GY y_R_takeLiteral b_R_takeLiteral 2 none 0 := ⟨wm_473, wm_56, by decide +kernel, by decide +kernel, by decide +kernel⟩
def p_R_takeLiteral (R_kind : Int32) (R_place : Int32) (R_tokenPlace : Int32) (R_number : Int32) (R_state : Int32) (R_positive : Int32) (R_negative : Int32) (k : Int32 → Int32 → Int32 → Int32 → Int32 → Prop) : Prop :=
  (p_B_isVariable R_number (fun (r_1 : Int32) => ((¬ r_1 = 0 → (p_B_bitOf R_number (fun (r_3 : Int32) => ((((R_positive ||| R_negative) &&& r_3) = 0 → ((¬ R_state = (4 : Int32) → (k R_kind R_place (3 : Int32) (R_positive ||| r_3) R_negative)) ∧ (R_state = (4 : Int32) → (k R_kind R_place (3 : Int32) R_positive (R_negative ||| r_3))))) ∧ (¬ ((R_positive ||| R_negative) &&& r_3) = 0 → (p_R_fail R_tokenPlace (3 : Int32) (fun (R_kind_6 : Int32) (R_place_7 : Int32) => (k R_kind_6 R_place_7 (3 : Int32) R_positive R_negative)))))))) ∧ (r_1 = 0 → (p_R_fail R_tokenPlace (2 : Int32) (fun (R_kind_9 : Int32) (R_place_10 : Int32) => (k R_kind_9 R_place_10 R_state R_positive R_negative)))))))
abbrev rm_R_takeLiteral : Room := { frames := 1, cells := 0, slots := 0, locals := 21 }
set_option maxHeartbeats 4000000 in
set_option maxRecDepth 100000 in
theorem c_R_takeLiteral {l : Launch} {D : va_G} {ca : Nat → ClassId} {tp : Nat} {ad : Nat → Nat} {T_length : Int32} {T_bytes : Nat → Int32} {C_size : Int32} {C_given : Int32} {C_empty : Int32} {C_drafted : Int32} {C_draftedGiven : Int32} {C_block : Nat → Int32} {C_left : Nat → Int32} {C_right : Nat → Int32} {C_pivot : Nat → Int32} {C_positive : Nat → Int32} {C_negative : Nat → Int32} {C_live : Nat → Int32} {C_needed : Nat → Int32} {R_kind : Int32} {R_place : Int32} {R_at : Int32} {R_token : Int32} {R_tokenPlace : Int32} {R_number : Int32} {R_state : Int32} {R_block : Int32} {R_positive : Int32} {R_negative : Int32} {R_left : Int32} {R_right : Int32} {R_pivot : Int32} {L_of : Nat → Int32} {F_cut : Int32} {F_labelledA : Int32} {F_labelledB : Int32} {F_row : Nat → Int64} {A_root : Int32} {A_words : Nat → Int64} {A_known : Nat → Int32} {G_size : Int32} {G_variable : Nat → Int32} {G_low : Nat → Int32} {G_high : Nat → Int32} {G_numberOf : Nat → Int32} {G_nodeOf : Nat → Int32} {G_sides : Nat → Int32} {G_waiting : Nat → Int32} {B_table : Nat → Int64} {B_nextTable : Nat → Int64}  {k : Int32 → Int32 → Int32 → Int32 → Int32 → Prop} (h : p_R_takeLiteral R_kind R_place R_tokenPlace R_number R_state R_positive R_negative k) :
    MTv l y_R_takeLiteral b_R_takeLiteral 2 none rm_R_takeLiteral D ca tp [.ref (ad 12)] (WB ad ca T_length T_bytes C_size C_given C_empty C_drafted C_draftedGiven C_block C_left C_right C_pivot C_positive C_negative C_live C_needed R_kind R_place R_at R_token R_tokenPlace R_number R_state R_block R_positive R_negative R_left R_right R_pivot L_of F_cut F_labelledA F_labelledB F_row A_root A_words A_known G_size G_variable G_low G_high G_numberOf G_nodeOf G_sides G_waiting B_table B_nextTable)
      (fun (u : Int32 × Int32 × Int32 × Int32 × Int32) => k u.1 u.2.1 u.2.2.1 u.2.2.2.1 u.2.2.2.2)
      (fun (u : Int32 × Int32 × Int32 × Int32 × Int32) => WB ad ca T_length T_bytes C_size C_given C_empty C_drafted C_draftedGiven C_block C_left C_right C_pivot C_positive C_negative C_live C_needed u.1 u.2.1 R_at R_token R_tokenPlace R_number u.2.2.1 R_block u.2.2.2.1 u.2.2.2.2 R_left R_right R_pivot L_of F_cut F_labelledA F_labelledB F_row A_root A_words A_known G_size G_variable G_low G_high G_numberOf G_nodeOf G_sides G_waiting B_table B_nextTable) 0 0 := by
  refine x_entryv (own := R_R) (nm := "takeLiteral") (by decide) rfl rfl (Nat.le_of_ble_eq_true rfl) (fun p e s m below meth c A ls C0 hw hl => ?_)
  have hx := C0.1
  have hb := C0.2.1
  have hl : lv_has ls 2 [(0, .ref (ad 12))] := hl
  unfold p_R_takeLiteral at h
  refine lv_aload_n hx hb d_R_takeLiteral_0 rfl (lv_at hl 0 rfl) ?_
  refine x_get C0 hw 12 rfl rfl i_R 7 (by decide) wm_172 rfl rfl d_R_takeLiteral_1 ?_
  refine x_callSNi C0 hw hl (c_B_isVariable h) g_B_isVariable wm_448 wm_449 (As := [.int R_number]) (rest := []) rfl rfl (Nat.le_of_ble_eq_true rfl) ⟨rfl, rfl⟩ ⟨Nat.le_of_ble_eq_true rfl, Nat.le_of_ble_eq_true rfl⟩ ⟨Nat.le_of_ble_eq_true rfl, Nat.le_of_ble_eq_true rfl⟩ d_R_takeLiteral_4 (fun r_1 u H locs h hw => ?_)
  refine lv_if_ne (tgt := 16) hx hb d_R_takeLiteral_7 (by decide) (fun c_2 => ?_) (fun c_2 => ?_)
  · have h := h.1 c_2
    refine lv_aload_n hx hb d_R_takeLiteral_16 rfl (lv_at hl 0 rfl) ?_
    refine x_get C0 hw 12 rfl rfl i_R 7 (by decide) wm_172 rfl rfl d_R_takeLiteral_17 ?_
    refine x_callSNi C0 hw hl (c_B_bitOf h) g_B_bitOf wm_474 wm_456 (As := [.int R_number]) (rest := []) rfl rfl (Nat.le_of_ble_eq_true rfl) ⟨rfl, rfl⟩ ⟨Nat.le_of_ble_eq_true rfl, Nat.le_of_ble_eq_true rfl⟩ ⟨Nat.le_of_ble_eq_true rfl, Nat.le_of_ble_eq_true rfl⟩ d_R_takeLiteral_20 (fun r_3 u H locs h hw => ?_)
    refine lv_istore_n (lv' := [(1, .int r_3), (0, .ref (ad 12))]) hx hb d_R_takeLiteral_23 rfl hl (by decide) rfl (fun ls hl => ?_)
    refine lv_aload_n hx hb d_R_takeLiteral_24 rfl (lv_at hl 1 rfl) ?_
    refine x_get C0 hw 12 rfl rfl i_R 10 (by decide) wm_175 rfl rfl d_R_takeLiteral_25 ?_
    refine lv_aload_n hx hb d_R_takeLiteral_28 rfl (lv_at hl 1 rfl) ?_
    refine x_get C0 hw 12 rfl rfl i_R 11 (by decide) wm_176 rfl rfl d_R_takeLiteral_29 ?_
    refine lv_ior hx hb d_R_takeLiteral_32 ?_
    refine lv_iload_n hx hb d_R_takeLiteral_33 rfl (lv_at hl 0 rfl) ?_
    refine lv_iand hx hb d_R_takeLiteral_34 ?_
    refine lv_if_eq (tgt := 46) hx hb d_R_takeLiteral_35 (by decide) (fun c_4 => ?_) (fun c_4 => ?_)
    · have h := h.1 c_4
      refine lv_aload_n hx hb d_R_takeLiteral_46 rfl (lv_at hl 1 rfl) ?_
      refine x_get C0 hw 12 rfl rfl i_R 8 (by decide) wm_173 rfl rfl d_R_takeLiteral_47 ?_
      refine lv_iconst (v := 4) hx hb d_R_takeLiteral_50 (by decide) ?_
      refine lv_icmp_ne (tgt := 67) hx hb d_R_takeLiteral_51 (by decide) (fun c_5 => ?_) (fun c_5 => ?_)
      · have h := h.1 c_5
        refine lv_aload_n hx hb d_R_takeLiteral_67 rfl (lv_at hl 1 rfl) ?_
        refine lv_dup hx hb d_R_takeLiteral_68 rfl ?_
        refine x_get C0 hw 12 rfl rfl i_R 10 (by decide) wm_175 rfl rfl d_R_takeLiteral_69 ?_
        refine lv_iload_n hx hb d_R_takeLiteral_72 rfl (lv_at hl 0 rfl) ?_
        refine lv_ior hx hb d_R_takeLiteral_73 ?_
        refine x_put C0 hw 12 rfl rfl i_R tk_R n_R 10 (by decide) wm_175 rfl rfl rfl rfl (Nat.le_of_ble_eq_true rfl) (ws' := WB ad ca T_length T_bytes C_size C_given C_empty C_drafted C_draftedGiven C_block C_left C_right C_pivot C_positive C_negative C_live C_needed R_kind R_place R_at R_token R_tokenPlace R_number R_state R_block (R_positive ||| r_3) R_negative R_left R_right R_pivot L_of F_cut F_labelledA F_labelledB F_row A_root A_words A_known G_size G_variable G_low G_high G_numberOf G_nodeOf G_sides G_waiting B_table B_nextTable) rfl d_R_takeLiteral_74 (fun H locs hw => ?_)
        refine lv_aload_n hx hb d_R_takeLiteral_77 rfl (lv_at hl 1 rfl) ?_
        refine lv_iconst (v := 3) hx hb d_R_takeLiteral_78 (by decide) ?_
        refine x_put C0 hw 12 rfl rfl i_R tk_R n_R 8 (by decide) wm_173 rfl rfl rfl rfl (Nat.le_of_ble_eq_true rfl) (ws' := WB ad ca T_length T_bytes C_size C_given C_empty C_drafted C_draftedGiven C_block C_left C_right C_pivot C_positive C_negative C_live C_needed R_kind R_place R_at R_token R_tokenPlace R_number (3 : Int32) R_block (R_positive ||| r_3) R_negative R_left R_right R_pivot L_of F_cut F_labelledA F_labelledB F_row A_root A_words A_known G_size G_variable G_low G_high G_numberOf G_nodeOf G_sides G_waiting B_table B_nextTable) rfl d_R_takeLiteral_79 (fun H locs hw => ?_)
        exact x_vret C0 hw (R_kind, R_place, (3 : Int32), (R_positive ||| r_3), R_negative) h rfl d_R_takeLiteral_82
      · have h := h.2 c_5
        refine lv_aload_n hx hb d_R_takeLiteral_54 rfl (lv_at hl 1 rfl) ?_
        refine lv_dup hx hb d_R_takeLiteral_55 rfl ?_
        refine x_get C0 hw 12 rfl rfl i_R 11 (by decide) wm_176 rfl rfl d_R_takeLiteral_56 ?_
        refine lv_iload_n hx hb d_R_takeLiteral_59 rfl (lv_at hl 0 rfl) ?_
        refine lv_ior hx hb d_R_takeLiteral_60 ?_
        refine x_put C0 hw 12 rfl rfl i_R tk_R n_R 11 (by decide) wm_176 rfl rfl rfl rfl (Nat.le_of_ble_eq_true rfl) (ws' := WB ad ca T_length T_bytes C_size C_given C_empty C_drafted C_draftedGiven C_block C_left C_right C_pivot C_positive C_negative C_live C_needed R_kind R_place R_at R_token R_tokenPlace R_number R_state R_block R_positive (R_negative ||| r_3) R_left R_right R_pivot L_of F_cut F_labelledA F_labelledB F_row A_root A_words A_known G_size G_variable G_low G_high G_numberOf G_nodeOf G_sides G_waiting B_table B_nextTable) rfl d_R_takeLiteral_61 (fun H locs hw => ?_)
        refine lv_goto (tgt := 77) hx hb d_R_takeLiteral_64 (by decide) ?_
        refine lv_aload_n hx hb d_R_takeLiteral_77 rfl (lv_at hl 1 rfl) ?_
        refine lv_iconst (v := 3) hx hb d_R_takeLiteral_78 (by decide) ?_
        refine x_put C0 hw 12 rfl rfl i_R tk_R n_R 8 (by decide) wm_173 rfl rfl rfl rfl (Nat.le_of_ble_eq_true rfl) (ws' := WB ad ca T_length T_bytes C_size C_given C_empty C_drafted C_draftedGiven C_block C_left C_right C_pivot C_positive C_negative C_live C_needed R_kind R_place R_at R_token R_tokenPlace R_number (3 : Int32) R_block R_positive (R_negative ||| r_3) R_left R_right R_pivot L_of F_cut F_labelledA F_labelledB F_row A_root A_words A_known G_size G_variable G_low G_high G_numberOf G_nodeOf G_sides G_waiting B_table B_nextTable) rfl d_R_takeLiteral_79 (fun H locs hw => ?_)
        exact x_vret C0 hw (R_kind, R_place, (3 : Int32), R_positive, (R_negative ||| r_3)) h rfl d_R_takeLiteral_82
    · have h := h.2 c_4
      refine lv_aload_n hx hb d_R_takeLiteral_38 rfl (lv_at hl 1 rfl) ?_
      refine lv_iconst (v := 3) hx hb d_R_takeLiteral_39 (by decide) ?_
      refine x_callVv C0 hw hl (c_R_fail h) g_R_fail wm_398 ⟨wm_6, wm_400⟩ 12 rfl rfl rfl (As := [.int (3 : Int32)]) (rest := []) rfl rfl (Nat.le_of_ble_eq_true rfl) ⟨rfl, rfl⟩ ⟨Nat.le_of_ble_eq_true rfl, Nat.le_of_ble_eq_true rfl⟩ ⟨Nat.le_of_ble_eq_true rfl, Nat.le_of_ble_eq_true rfl⟩ d_R_takeLiteral_40 (fun u H locs h hw => ?_)
      obtain ⟨R_kind_6, R_place_7⟩ := u
      refine lv_goto (tgt := 77) hx hb d_R_takeLiteral_43 (by decide) ?_
      refine lv_aload_n hx hb d_R_takeLiteral_77 rfl (lv_at hl 1 rfl) ?_
      refine lv_iconst (v := 3) hx hb d_R_takeLiteral_78 (by decide) ?_
      refine x_put C0 hw 12 rfl rfl i_R tk_R n_R 8 (by decide) wm_173 rfl rfl rfl rfl (Nat.le_of_ble_eq_true rfl) (ws' := WB ad ca T_length T_bytes C_size C_given C_empty C_drafted C_draftedGiven C_block C_left C_right C_pivot C_positive C_negative C_live C_needed R_kind_6 R_place_7 R_at R_token R_tokenPlace R_number (3 : Int32) R_block R_positive R_negative R_left R_right R_pivot L_of F_cut F_labelledA F_labelledB F_row A_root A_words A_known G_size G_variable G_low G_high G_numberOf G_nodeOf G_sides G_waiting B_table B_nextTable) rfl d_R_takeLiteral_79 (fun H locs hw => ?_)
      exact x_vret C0 hw (R_kind_6, R_place_7, (3 : Int32), R_positive, R_negative) h rfl d_R_takeLiteral_82
  · have h := h.2 c_2
    refine lv_aload_n hx hb d_R_takeLiteral_10 rfl (lv_at hl 0 rfl) ?_
    refine lv_iconst (v := 2) hx hb d_R_takeLiteral_11 (by decide) ?_
    refine x_callVv C0 hw hl (c_R_fail h) g_R_fail wm_398 ⟨wm_6, wm_400⟩ 12 rfl rfl rfl (As := [.int (2 : Int32)]) (rest := []) rfl rfl (Nat.le_of_ble_eq_true rfl) ⟨rfl, rfl⟩ ⟨Nat.le_of_ble_eq_true rfl, Nat.le_of_ble_eq_true rfl⟩ ⟨Nat.le_of_ble_eq_true rfl, Nat.le_of_ble_eq_true rfl⟩ d_R_takeLiteral_12 (fun u H locs h hw => ?_)
    obtain ⟨R_kind_9, R_place_10⟩ := u
    exact x_vret C0 hw (R_kind_9, R_place_10, R_state, R_positive, R_negative) h rfl d_R_takeLiteral_15
theorem g_R_takeLeft : GY y_R_takeLeft b_R_takeLeft 1 none 0 := ⟨wm_435, wm_56, by decide +kernel, by decide +kernel, by decide +kernel⟩
def p_R_takeLeft (C_drafted : Int32) (R_kind : Int32) (R_place : Int32) (R_tokenPlace : Int32) (R_number : Int32) (R_state : Int32) (R_left : Int32) (k : Int32 → Int32 → Int32 → Int32 → Prop) : Prop :=
  (p_C_isDrafted C_drafted R_number (fun (r_1 : Int32) => ((¬ r_1 = 0 → (k R_kind R_place (6 : Int32) R_number)) ∧ (r_1 = 0 → (p_R_fail R_tokenPlace (2 : Int32) (fun (R_kind_3 : Int32) (R_place_4 : Int32) => (k R_kind_3 R_place_4 R_state R_left)))))))
abbrev rm_R_takeLeft : Room := { frames := 1, cells := 0, slots := 0, locals := 21 }
set_option maxHeartbeats 4000000 in
set_option maxRecDepth 100000 in
theorem c_R_takeLeft {l : Launch} {D : va_G} {ca : Nat → ClassId} {tp : Nat} {ad : Nat → Nat} {T_length : Int32} {T_bytes : Nat → Int32} {C_size : Int32} {C_given : Int32} {C_empty : Int32} {C_drafted : Int32} {C_draftedGiven : Int32} {C_block : Nat → Int32} {C_left : Nat → Int32} {C_right : Nat → Int32} {C_pivot : Nat → Int32} {C_positive : Nat → Int32} {C_negative : Nat → Int32} {C_live : Nat → Int32} {C_needed : Nat → Int32} {R_kind : Int32} {R_place : Int32} {R_at : Int32} {R_token : Int32} {R_tokenPlace : Int32} {R_number : Int32} {R_state : Int32} {R_block : Int32} {R_positive : Int32} {R_negative : Int32} {R_left : Int32} {R_right : Int32} {R_pivot : Int32} {L_of : Nat → Int32} {F_cut : Int32} {F_labelledA : Int32} {F_labelledB : Int32} {F_row : Nat → Int64} {A_root : Int32} {A_words : Nat → Int64} {A_known : Nat → Int32} {G_size : Int32} {G_variable : Nat → Int32} {G_low : Nat → Int32} {G_high : Nat → Int32} {G_numberOf : Nat → Int32} {G_nodeOf : Nat → Int32} {G_sides : Nat → Int32} {G_waiting : Nat → Int32} {B_table : Nat → Int64} {B_nextTable : Nat → Int64}  {k : Int32 → Int32 → Int32 → Int32 → Prop} (h : p_R_takeLeft C_drafted R_kind R_place R_tokenPlace R_number R_state R_left k) :
    MTv l y_R_takeLeft b_R_takeLeft 1 none rm_R_takeLeft D ca tp [.ref (ad 12)] (WB ad ca T_length T_bytes C_size C_given C_empty C_drafted C_draftedGiven C_block C_left C_right C_pivot C_positive C_negative C_live C_needed R_kind R_place R_at R_token R_tokenPlace R_number R_state R_block R_positive R_negative R_left R_right R_pivot L_of F_cut F_labelledA F_labelledB F_row A_root A_words A_known G_size G_variable G_low G_high G_numberOf G_nodeOf G_sides G_waiting B_table B_nextTable)
      (fun (u : Int32 × Int32 × Int32 × Int32) => k u.1 u.2.1 u.2.2.1 u.2.2.2)
      (fun (u : Int32 × Int32 × Int32 × Int32) => WB ad ca T_length T_bytes C_size C_given C_empty C_drafted C_draftedGiven C_block C_left C_right C_pivot C_positive C_negative C_live C_needed u.1 u.2.1 R_at R_token R_tokenPlace R_number u.2.2.1 R_block R_positive R_negative u.2.2.2 R_right R_pivot L_of F_cut F_labelledA F_labelledB F_row A_root A_words A_known G_size G_variable G_low G_high G_numberOf G_nodeOf G_sides G_waiting B_table B_nextTable) 0 0 := by
  refine x_entryv (own := R_R) (nm := "takeLeft") (by decide) rfl rfl (Nat.le_of_ble_eq_true rfl) (fun p e s m below meth c A ls C0 hw hl => ?_)
  have hx := C0.1
  have hb := C0.2.1
  have hl : lv_has ls 1 [(0, .ref (ad 12))] := hl
  unfold p_R_takeLeft at h
  refine lv_aload_n hx hb d_R_takeLeft_0 rfl (lv_at hl 0 rfl) ?_
  refine x_get C0 hw 12 rfl rfl i_R 1 (by decide) wm_164 rfl rfl d_R_takeLeft_1 ?_
  refine lv_aload_n hx hb d_R_takeLeft_4 rfl (lv_at hl 0 rfl) ?_
  refine x_get C0 hw 12 rfl rfl i_R 7 (by decide) wm_172 rfl rfl d_R_takeLeft_5 ?_
  refine x_callVi C0 hw hl (c_C_isDrafted h) g_C_isDrafted wm_436 ⟨wm_438, wm_437⟩ 3 rfl rfl rfl (As := [.int R_number]) (rest := []) rfl rfl (Nat.le_of_ble_eq_true rfl) ⟨rfl, rfl⟩ ⟨Nat.le_of_ble_eq_true rfl, Nat.le_of_ble_eq_true rfl⟩ ⟨Nat.le_of_ble_eq_true rfl, Nat.le_of_ble_eq_true rfl⟩ d_R_takeLeft_8 (fun r_1 u H locs h hw => ?_)
  refine lv_if_ne (tgt := 20) hx hb d_R_takeLeft_11 (by decide) (fun c_2 => ?_) (fun c_2 => ?_)
  · have h := h.1 c_2
    refine lv_aload_n hx hb d_R_takeLeft_20 rfl (lv_at hl 0 rfl) ?_
    refine lv_aload_n hx hb d_R_takeLeft_21 rfl (lv_at hl 0 rfl) ?_
    refine x_get C0 hw 12 rfl rfl i_R 7 (by decide) wm_172 rfl rfl d_R_takeLeft_22 ?_
    refine x_put C0 hw 12 rfl rfl i_R tk_R n_R 12 (by decide) wm_177 rfl rfl rfl rfl (Nat.le_of_ble_eq_true rfl) (ws' := WB ad ca T_length T_bytes C_size C_given C_empty C_drafted C_draftedGiven C_block C_left C_right C_pivot C_positive C_negative C_live C_needed R_kind R_place R_at R_token R_tokenPlace R_number R_state R_block R_positive R_negative R_number R_right R_pivot L_of F_cut F_labelledA F_labelledB F_row A_root A_words A_known G_size G_variable G_low G_high G_numberOf G_nodeOf G_sides G_waiting B_table B_nextTable) rfl d_R_takeLeft_25 (fun H locs hw => ?_)
    refine lv_aload_n hx hb d_R_takeLeft_28 rfl (lv_at hl 0 rfl) ?_
    refine lv_bipush (v := 6) hx hb d_R_takeLeft_29 (by decide) ?_
    refine x_put C0 hw 12 rfl rfl i_R tk_R n_R 8 (by decide) wm_173 rfl rfl rfl rfl (Nat.le_of_ble_eq_true rfl) (ws' := WB ad ca T_length T_bytes C_size C_given C_empty C_drafted C_draftedGiven C_block C_left C_right C_pivot C_positive C_negative C_live C_needed R_kind R_place R_at R_token R_tokenPlace R_number (6 : Int32) R_block R_positive R_negative R_number R_right R_pivot L_of F_cut F_labelledA F_labelledB F_row A_root A_words A_known G_size G_variable G_low G_high G_numberOf G_nodeOf G_sides G_waiting B_table B_nextTable) rfl d_R_takeLeft_31 (fun H locs hw => ?_)
    exact x_vret C0 hw (R_kind, R_place, (6 : Int32), R_number) h rfl d_R_takeLeft_34
  · have h := h.2 c_2
    refine lv_aload_n hx hb d_R_takeLeft_14 rfl (lv_at hl 0 rfl) ?_
    refine lv_iconst (v := 2) hx hb d_R_takeLeft_15 (by decide) ?_
    refine x_callVv C0 hw hl (c_R_fail h) g_R_fail wm_398 ⟨wm_6, wm_400⟩ 12 rfl rfl rfl (As := [.int (2 : Int32)]) (rest := []) rfl rfl (Nat.le_of_ble_eq_true rfl) ⟨rfl, rfl⟩ ⟨Nat.le_of_ble_eq_true rfl, Nat.le_of_ble_eq_true rfl⟩ ⟨Nat.le_of_ble_eq_true rfl, Nat.le_of_ble_eq_true rfl⟩ d_R_takeLeft_16 (fun u H locs h hw => ?_)
    obtain ⟨R_kind_3, R_place_4⟩ := u
    exact x_vret C0 hw (R_kind_3, R_place_4, R_state, R_left) h rfl d_R_takeLeft_19
theorem g_R_takeRight : GY y_R_takeRight b_R_takeRight 1 none 0 := ⟨wm_443, wm_56, by decide +kernel, by decide +kernel, by decide +kernel⟩
def p_R_takeRight (C_drafted : Int32) (R_kind : Int32) (R_place : Int32) (R_tokenPlace : Int32) (R_number : Int32) (R_state : Int32) (R_right : Int32) (k : Int32 → Int32 → Int32 → Int32 → Prop) : Prop :=
  (p_C_isDrafted C_drafted R_number (fun (r_1 : Int32) => ((¬ r_1 = 0 → (k R_kind R_place (7 : Int32) R_number)) ∧ (r_1 = 0 → (p_R_fail R_tokenPlace (2 : Int32) (fun (R_kind_3 : Int32) (R_place_4 : Int32) => (k R_kind_3 R_place_4 R_state R_right)))))))
abbrev rm_R_takeRight : Room := { frames := 1, cells := 0, slots := 0, locals := 21 }
set_option maxHeartbeats 4000000 in
set_option maxRecDepth 100000 in
theorem c_R_takeRight {l : Launch} {D : va_G} {ca : Nat → ClassId} {tp : Nat} {ad : Nat → Nat} {T_length : Int32} {T_bytes : Nat → Int32} {C_size : Int32} {C_given : Int32} {C_empty : Int32} {C_drafted : Int32} {C_draftedGiven : Int32} {C_block : Nat → Int32} {C_left : Nat → Int32} {C_right : Nat → Int32} {C_pivot : Nat → Int32} {C_positive : Nat → Int32} {C_negative : Nat → Int32} {C_live : Nat → Int32} {C_needed : Nat → Int32} {R_kind : Int32} {R_place : Int32} {R_at : Int32} {R_token : Int32} {R_tokenPlace : Int32} {R_number : Int32} {R_state : Int32} {R_block : Int32} {R_positive : Int32} {R_negative : Int32} {R_left : Int32} {R_right : Int32} {R_pivot : Int32} {L_of : Nat → Int32} {F_cut : Int32} {F_labelledA : Int32} {F_labelledB : Int32} {F_row : Nat → Int64} {A_root : Int32} {A_words : Nat → Int64} {A_known : Nat → Int32} {G_size : Int32} {G_variable : Nat → Int32} {G_low : Nat → Int32} {G_high : Nat → Int32} {G_numberOf : Nat → Int32} {G_nodeOf : Nat → Int32} {G_sides : Nat → Int32} {G_waiting : Nat → Int32} {B_table : Nat → Int64} {B_nextTable : Nat → Int64}  {k : Int32 → Int32 → Int32 → Int32 → Prop} (h : p_R_takeRight C_drafted R_kind R_place R_tokenPlace R_number R_state R_right k) :
    MTv l y_R_takeRight b_R_takeRight 1 none rm_R_takeRight D ca tp [.ref (ad 12)] (WB ad ca T_length T_bytes C_size C_given C_empty C_drafted C_draftedGiven C_block C_left C_right C_pivot C_positive C_negative C_live C_needed R_kind R_place R_at R_token R_tokenPlace R_number R_state R_block R_positive R_negative R_left R_right R_pivot L_of F_cut F_labelledA F_labelledB F_row A_root A_words A_known G_size G_variable G_low G_high G_numberOf G_nodeOf G_sides G_waiting B_table B_nextTable)
      (fun (u : Int32 × Int32 × Int32 × Int32) => k u.1 u.2.1 u.2.2.1 u.2.2.2)
      (fun (u : Int32 × Int32 × Int32 × Int32) => WB ad ca T_length T_bytes C_size C_given C_empty C_drafted C_draftedGiven C_block C_left C_right C_pivot C_positive C_negative C_live C_needed u.1 u.2.1 R_at R_token R_tokenPlace R_number u.2.2.1 R_block R_positive R_negative R_left u.2.2.2 R_pivot L_of F_cut F_labelledA F_labelledB F_row A_root A_words A_known G_size G_variable G_low G_high G_numberOf G_nodeOf G_sides G_waiting B_table B_nextTable) 0 0 := by
  refine x_entryv (own := R_R) (nm := "takeRight") (by decide) rfl rfl (Nat.le_of_ble_eq_true rfl) (fun p e s m below meth c A ls C0 hw hl => ?_)
  have hx := C0.1
  have hb := C0.2.1
  have hl : lv_has ls 1 [(0, .ref (ad 12))] := hl
  unfold p_R_takeRight at h
  refine lv_aload_n hx hb d_R_takeRight_0 rfl (lv_at hl 0 rfl) ?_
  refine x_get C0 hw 12 rfl rfl i_R 1 (by decide) wm_164 rfl rfl d_R_takeRight_1 ?_
  refine lv_aload_n hx hb d_R_takeRight_4 rfl (lv_at hl 0 rfl) ?_
  refine x_get C0 hw 12 rfl rfl i_R 7 (by decide) wm_172 rfl rfl d_R_takeRight_5 ?_
  refine x_callVi C0 hw hl (c_C_isDrafted h) g_C_isDrafted wm_436 ⟨wm_438, wm_437⟩ 3 rfl rfl rfl (As := [.int R_number]) (rest := []) rfl rfl (Nat.le_of_ble_eq_true rfl) ⟨rfl, rfl⟩ ⟨Nat.le_of_ble_eq_true rfl, Nat.le_of_ble_eq_true rfl⟩ ⟨Nat.le_of_ble_eq_true rfl, Nat.le_of_ble_eq_true rfl⟩ d_R_takeRight_8 (fun r_1 u H locs h hw => ?_)
  refine lv_if_ne (tgt := 20) hx hb d_R_takeRight_11 (by decide) (fun c_2 => ?_) (fun c_2 => ?_)
  · have h := h.1 c_2
    refine lv_aload_n hx hb d_R_takeRight_20 rfl (lv_at hl 0 rfl) ?_
    refine lv_aload_n hx hb d_R_takeRight_21 rfl (lv_at hl 0 rfl) ?_
    refine x_get C0 hw 12 rfl rfl i_R 7 (by decide) wm_172 rfl rfl d_R_takeRight_22 ?_
    refine x_put C0 hw 12 rfl rfl i_R tk_R n_R 13 (by decide) wm_178 rfl rfl rfl rfl (Nat.le_of_ble_eq_true rfl) (ws' := WB ad ca T_length T_bytes C_size C_given C_empty C_drafted C_draftedGiven C_block C_left C_right C_pivot C_positive C_negative C_live C_needed R_kind R_place R_at R_token R_tokenPlace R_number R_state R_block R_positive R_negative R_left R_number R_pivot L_of F_cut F_labelledA F_labelledB F_row A_root A_words A_known G_size G_variable G_low G_high G_numberOf G_nodeOf G_sides G_waiting B_table B_nextTable) rfl d_R_takeRight_25 (fun H locs hw => ?_)
    refine lv_aload_n hx hb d_R_takeRight_28 rfl (lv_at hl 0 rfl) ?_
    refine lv_bipush (v := 7) hx hb d_R_takeRight_29 (by decide) ?_
    refine x_put C0 hw 12 rfl rfl i_R tk_R n_R 8 (by decide) wm_173 rfl rfl rfl rfl (Nat.le_of_ble_eq_true rfl) (ws' := WB ad ca T_length T_bytes C_size C_given C_empty C_drafted C_draftedGiven C_block C_left C_right C_pivot C_positive C_negative C_live C_needed R_kind R_place R_at R_token R_tokenPlace R_number (7 : Int32) R_block R_positive R_negative R_left R_number R_pivot L_of F_cut F_labelledA F_labelledB F_row A_root A_words A_known G_size G_variable G_low G_high G_numberOf G_nodeOf G_sides G_waiting B_table B_nextTable) rfl d_R_takeRight_31 (fun H locs hw => ?_)
    exact x_vret C0 hw (R_kind, R_place, (7 : Int32), R_number) h rfl d_R_takeRight_34
  · have h := h.2 c_2
    refine lv_aload_n hx hb d_R_takeRight_14 rfl (lv_at hl 0 rfl) ?_
    refine lv_iconst (v := 2) hx hb d_R_takeRight_15 (by decide) ?_
    refine x_callVv C0 hw hl (c_R_fail h) g_R_fail wm_398 ⟨wm_6, wm_400⟩ 12 rfl rfl rfl (As := [.int (2 : Int32)]) (rest := []) rfl rfl (Nat.le_of_ble_eq_true rfl) ⟨rfl, rfl⟩ ⟨Nat.le_of_ble_eq_true rfl, Nat.le_of_ble_eq_true rfl⟩ ⟨Nat.le_of_ble_eq_true rfl, Nat.le_of_ble_eq_true rfl⟩ d_R_takeRight_16 (fun u H locs h hw => ?_)
    obtain ⟨R_kind_3, R_place_4⟩ := u
    exact x_vret C0 hw (R_kind_3, R_place_4, R_state, R_right) h rfl d_R_takeRight_19
theorem g_R_takePivot : GY y_R_takePivot b_R_takePivot 1 none 0 := ⟨wm_447, wm_56, by decide +kernel, by decide +kernel, by decide +kernel⟩
def p_R_takePivot (C_positive : Nat → Int32) (C_negative : Nat → Int32) (R_kind : Int32) (R_place : Int32) (R_tokenPlace : Int32) (R_number : Int32) (R_left : Int32) (R_right : Int32) (k : Int32 → Int32 → Int32 → Int32 → Prop) : Prop :=
  (p_B_isVariable R_number (fun (r_1 : Int32) => ((¬ r_1 = 0 → (p_C_resolves C_positive C_negative R_left R_right R_number (fun (r_3 : Int32) => ((¬ r_3 = 0 → (p_C_clashes C_positive C_negative R_left R_right R_number (fun (r_5 : Int32) => ((r_5 = 0 → (k R_kind R_place (8 : Int32) R_number)) ∧ (¬ r_5 = 0 → (p_R_fail R_tokenPlace (5 : Int32) (fun (R_kind_7 : Int32) (R_place_8 : Int32) => (k R_kind_7 R_place_8 (8 : Int32) R_number)))))))) ∧ (r_3 = 0 → (p_R_fail R_tokenPlace (4 : Int32) (fun (R_kind_10 : Int32) (R_place_11 : Int32) => (k R_kind_10 R_place_11 (8 : Int32) R_number)))))))) ∧ (r_1 = 0 → (p_R_fail R_tokenPlace (2 : Int32) (fun (R_kind_13 : Int32) (R_place_14 : Int32) => (k R_kind_13 R_place_14 (8 : Int32) R_number)))))))
abbrev rm_R_takePivot : Room := { frames := 3, cells := 0, slots := 0, locals := 66 }
set_option maxHeartbeats 4000000 in
set_option maxRecDepth 100000 in
theorem c_R_takePivot {l : Launch} {D : va_G} {ca : Nat → ClassId} {tp : Nat} {ad : Nat → Nat} {T_length : Int32} {T_bytes : Nat → Int32} {C_size : Int32} {C_given : Int32} {C_empty : Int32} {C_drafted : Int32} {C_draftedGiven : Int32} {C_block : Nat → Int32} {C_left : Nat → Int32} {C_right : Nat → Int32} {C_pivot : Nat → Int32} {C_positive : Nat → Int32} {C_negative : Nat → Int32} {C_live : Nat → Int32} {C_needed : Nat → Int32} {R_kind : Int32} {R_place : Int32} {R_at : Int32} {R_token : Int32} {R_tokenPlace : Int32} {R_number : Int32} {R_state : Int32} {R_block : Int32} {R_positive : Int32} {R_negative : Int32} {R_left : Int32} {R_right : Int32} {R_pivot : Int32} {L_of : Nat → Int32} {F_cut : Int32} {F_labelledA : Int32} {F_labelledB : Int32} {F_row : Nat → Int64} {A_root : Int32} {A_words : Nat → Int64} {A_known : Nat → Int32} {G_size : Int32} {G_variable : Nat → Int32} {G_low : Nat → Int32} {G_high : Nat → Int32} {G_numberOf : Nat → Int32} {G_nodeOf : Nat → Int32} {G_sides : Nat → Int32} {G_waiting : Nat → Int32} {B_table : Nat → Int64} {B_nextTable : Nat → Int64}  {k : Int32 → Int32 → Int32 → Int32 → Prop} (h : p_R_takePivot C_positive C_negative R_kind R_place R_tokenPlace R_number R_left R_right k) :
    MTv l y_R_takePivot b_R_takePivot 1 none rm_R_takePivot D ca tp [.ref (ad 12)] (WB ad ca T_length T_bytes C_size C_given C_empty C_drafted C_draftedGiven C_block C_left C_right C_pivot C_positive C_negative C_live C_needed R_kind R_place R_at R_token R_tokenPlace R_number R_state R_block R_positive R_negative R_left R_right R_pivot L_of F_cut F_labelledA F_labelledB F_row A_root A_words A_known G_size G_variable G_low G_high G_numberOf G_nodeOf G_sides G_waiting B_table B_nextTable)
      (fun (u : Int32 × Int32 × Int32 × Int32) => k u.1 u.2.1 u.2.2.1 u.2.2.2)
      (fun (u : Int32 × Int32 × Int32 × Int32) => WB ad ca T_length T_bytes C_size C_given C_empty C_drafted C_draftedGiven C_block C_left C_right C_pivot C_positive C_negative C_live C_needed u.1 u.2.1 R_at R_token R_tokenPlace R_number u.2.2.1 R_block R_positive R_negative R_left R_right u.2.2.2 L_of F_cut F_labelledA F_labelledB F_row A_root A_words A_known G_size G_variable G_low G_high G_numberOf G_nodeOf G_sides G_waiting B_table B_nextTable) 0 0 := by
  refine x_entryv (own := R_R) (nm := "takePivot") (by decide) rfl rfl (Nat.le_of_ble_eq_true rfl) (fun p e s m below meth c A ls C0 hw hl => ?_)
  have hx := C0.1
  have hb := C0.2.1
  have hl : lv_has ls 1 [(0, .ref (ad 12))] := hl
  unfold p_R_takePivot at h
  refine lv_aload_n hx hb d_R_takePivot_0 rfl (lv_at hl 0 rfl) ?_
  refine x_get C0 hw 12 rfl rfl i_R 7 (by decide) wm_172 rfl rfl d_R_takePivot_1 ?_
  refine x_callSNi C0 hw hl (c_B_isVariable h) g_B_isVariable wm_448 wm_449 (As := [.int R_number]) (rest := []) rfl rfl (Nat.le_of_ble_eq_true rfl) ⟨rfl, rfl⟩ ⟨Nat.le_of_ble_eq_true rfl, Nat.le_of_ble_eq_true rfl⟩ ⟨Nat.le_of_ble_eq_true rfl, Nat.le_of_ble_eq_true rfl⟩ d_R_takePivot_4 (fun r_1 u H locs h hw => ?_)
  refine lv_if_ne (tgt := 18) hx hb d_R_takePivot_7 (by decide) (fun c_2 => ?_) (fun c_2 => ?_)
  · have h := h.1 c_2
    refine lv_aload_n hx hb d_R_takePivot_18 rfl (lv_at hl 0 rfl) ?_
    refine x_get C0 hw 12 rfl rfl i_R 1 (by decide) wm_164 rfl rfl d_R_takePivot_19 ?_
    refine lv_aload_n hx hb d_R_takePivot_22 rfl (lv_at hl 0 rfl) ?_
    refine x_get C0 hw 12 rfl rfl i_R 12 (by decide) wm_177 rfl rfl d_R_takePivot_23 ?_
    refine lv_aload_n hx hb d_R_takePivot_26 rfl (lv_at hl 0 rfl) ?_
    refine x_get C0 hw 12 rfl rfl i_R 13 (by decide) wm_178 rfl rfl d_R_takePivot_27 ?_
    refine lv_aload_n hx hb d_R_takePivot_30 rfl (lv_at hl 0 rfl) ?_
    refine x_get C0 hw 12 rfl rfl i_R 7 (by decide) wm_172 rfl rfl d_R_takePivot_31 ?_
    refine x_callVi C0 hw hl (c_C_resolves h) g_C_resolves wm_451 ⟨wm_453, wm_452⟩ 3 rfl rfl rfl (As := [.int R_left, .int R_right, .int R_number]) (rest := []) rfl rfl (Nat.le_of_ble_eq_true rfl) ⟨rfl, rfl⟩ ⟨Nat.le_of_ble_eq_true rfl, Nat.le_of_ble_eq_true rfl⟩ ⟨Nat.le_of_ble_eq_true rfl, Nat.le_of_ble_eq_true rfl⟩ d_R_takePivot_34 (fun r_3 u H locs h hw => ?_)
    refine lv_if_ne (tgt := 48) hx hb d_R_takePivot_37 (by decide) (fun c_4 => ?_) (fun c_4 => ?_)
    · have h := h.1 c_4
      refine lv_aload_n hx hb d_R_takePivot_48 rfl (lv_at hl 0 rfl) ?_
      refine x_get C0 hw 12 rfl rfl i_R 1 (by decide) wm_164 rfl rfl d_R_takePivot_49 ?_
      refine lv_aload_n hx hb d_R_takePivot_52 rfl (lv_at hl 0 rfl) ?_
      refine x_get C0 hw 12 rfl rfl i_R 12 (by decide) wm_177 rfl rfl d_R_takePivot_53 ?_
      refine lv_aload_n hx hb d_R_takePivot_56 rfl (lv_at hl 0 rfl) ?_
      refine x_get C0 hw 12 rfl rfl i_R 13 (by decide) wm_178 rfl rfl d_R_takePivot_57 ?_
      refine lv_aload_n hx hb d_R_takePivot_60 rfl (lv_at hl 0 rfl) ?_
      refine x_get C0 hw 12 rfl rfl i_R 7 (by decide) wm_172 rfl rfl d_R_takePivot_61 ?_
      refine x_callVi C0 hw hl (c_C_clashes h) g_C_clashes wm_458 ⟨wm_460, wm_459⟩ 3 rfl rfl rfl (As := [.int R_left, .int R_right, .int R_number]) (rest := []) rfl rfl (Nat.le_of_ble_eq_true rfl) ⟨rfl, rfl⟩ ⟨Nat.le_of_ble_eq_true rfl, Nat.le_of_ble_eq_true rfl⟩ ⟨Nat.le_of_ble_eq_true rfl, Nat.le_of_ble_eq_true rfl⟩ d_R_takePivot_64 (fun r_5 u H locs h hw => ?_)
      refine lv_if_eq (tgt := 75) hx hb d_R_takePivot_67 (by decide) (fun c_6 => ?_) (fun c_6 => ?_)
      · have h := h.1 c_6
        refine lv_aload_n hx hb d_R_takePivot_75 rfl (lv_at hl 0 rfl) ?_
        refine lv_aload_n hx hb d_R_takePivot_76 rfl (lv_at hl 0 rfl) ?_
        refine x_get C0 hw 12 rfl rfl i_R 7 (by decide) wm_172 rfl rfl d_R_takePivot_77 ?_
        refine x_put C0 hw 12 rfl rfl i_R tk_R n_R 14 (by decide) wm_179 rfl rfl rfl rfl (Nat.le_of_ble_eq_true rfl) (ws' := WB ad ca T_length T_bytes C_size C_given C_empty C_drafted C_draftedGiven C_block C_left C_right C_pivot C_positive C_negative C_live C_needed R_kind R_place R_at R_token R_tokenPlace R_number R_state R_block R_positive R_negative R_left R_right R_number L_of F_cut F_labelledA F_labelledB F_row A_root A_words A_known G_size G_variable G_low G_high G_numberOf G_nodeOf G_sides G_waiting B_table B_nextTable) rfl d_R_takePivot_80 (fun H locs hw => ?_)
        refine lv_aload_n hx hb d_R_takePivot_83 rfl (lv_at hl 0 rfl) ?_
        refine lv_bipush (v := 8) hx hb d_R_takePivot_84 (by decide) ?_
        refine x_put C0 hw 12 rfl rfl i_R tk_R n_R 8 (by decide) wm_173 rfl rfl rfl rfl (Nat.le_of_ble_eq_true rfl) (ws' := WB ad ca T_length T_bytes C_size C_given C_empty C_drafted C_draftedGiven C_block C_left C_right C_pivot C_positive C_negative C_live C_needed R_kind R_place R_at R_token R_tokenPlace R_number (8 : Int32) R_block R_positive R_negative R_left R_right R_number L_of F_cut F_labelledA F_labelledB F_row A_root A_words A_known G_size G_variable G_low G_high G_numberOf G_nodeOf G_sides G_waiting B_table B_nextTable) rfl d_R_takePivot_86 (fun H locs hw => ?_)
        exact x_vret C0 hw (R_kind, R_place, (8 : Int32), R_number) h rfl d_R_takePivot_89
      · have h := h.2 c_6
        refine lv_aload_n hx hb d_R_takePivot_70 rfl (lv_at hl 0 rfl) ?_
        refine lv_iconst (v := 5) hx hb d_R_takePivot_71 (by decide) ?_
        refine x_callVv C0 hw hl (c_R_fail h) g_R_fail wm_398 ⟨wm_6, wm_400⟩ 12 rfl rfl rfl (As := [.int (5 : Int32)]) (rest := []) rfl rfl (Nat.le_of_ble_eq_true rfl) ⟨rfl, rfl⟩ ⟨Nat.le_of_ble_eq_true rfl, Nat.le_of_ble_eq_true rfl⟩ ⟨Nat.le_of_ble_eq_true rfl, Nat.le_of_ble_eq_true rfl⟩ d_R_takePivot_72 (fun u H locs h hw => ?_)
        obtain ⟨R_kind_7, R_place_8⟩ := u
        refine lv_aload_n hx hb d_R_takePivot_75 rfl (lv_at hl 0 rfl) ?_
        refine lv_aload_n hx hb d_R_takePivot_76 rfl (lv_at hl 0 rfl) ?_
        refine x_get C0 hw 12 rfl rfl i_R 7 (by decide) wm_172 rfl rfl d_R_takePivot_77 ?_
        refine x_put C0 hw 12 rfl rfl i_R tk_R n_R 14 (by decide) wm_179 rfl rfl rfl rfl (Nat.le_of_ble_eq_true rfl) (ws' := WB ad ca T_length T_bytes C_size C_given C_empty C_drafted C_draftedGiven C_block C_left C_right C_pivot C_positive C_negative C_live C_needed R_kind_7 R_place_8 R_at R_token R_tokenPlace R_number R_state R_block R_positive R_negative R_left R_right R_number L_of F_cut F_labelledA F_labelledB F_row A_root A_words A_known G_size G_variable G_low G_high G_numberOf G_nodeOf G_sides G_waiting B_table B_nextTable) rfl d_R_takePivot_80 (fun H locs hw => ?_)
        refine lv_aload_n hx hb d_R_takePivot_83 rfl (lv_at hl 0 rfl) ?_
        refine lv_bipush (v := 8) hx hb d_R_takePivot_84 (by decide) ?_
        refine x_put C0 hw 12 rfl rfl i_R tk_R n_R 8 (by decide) wm_173 rfl rfl rfl rfl (Nat.le_of_ble_eq_true rfl) (ws' := WB ad ca T_length T_bytes C_size C_given C_empty C_drafted C_draftedGiven C_block C_left C_right C_pivot C_positive C_negative C_live C_needed R_kind_7 R_place_8 R_at R_token R_tokenPlace R_number (8 : Int32) R_block R_positive R_negative R_left R_right R_number L_of F_cut F_labelledA F_labelledB F_row A_root A_words A_known G_size G_variable G_low G_high G_numberOf G_nodeOf G_sides G_waiting B_table B_nextTable) rfl d_R_takePivot_86 (fun H locs hw => ?_)
        exact x_vret C0 hw (R_kind_7, R_place_8, (8 : Int32), R_number) h rfl d_R_takePivot_89
    · have h := h.2 c_4
      refine lv_aload_n hx hb d_R_takePivot_40 rfl (lv_at hl 0 rfl) ?_
      refine lv_iconst (v := 4) hx hb d_R_takePivot_41 (by decide) ?_
      refine x_callVv C0 hw hl (c_R_fail h) g_R_fail wm_398 ⟨wm_6, wm_400⟩ 12 rfl rfl rfl (As := [.int (4 : Int32)]) (rest := []) rfl rfl (Nat.le_of_ble_eq_true rfl) ⟨rfl, rfl⟩ ⟨Nat.le_of_ble_eq_true rfl, Nat.le_of_ble_eq_true rfl⟩ ⟨Nat.le_of_ble_eq_true rfl, Nat.le_of_ble_eq_true rfl⟩ d_R_takePivot_42 (fun u H locs h hw => ?_)
      obtain ⟨R_kind_10, R_place_11⟩ := u
      refine lv_goto (tgt := 75) hx hb d_R_takePivot_45 (by decide) ?_
      refine lv_aload_n hx hb d_R_takePivot_75 rfl (lv_at hl 0 rfl) ?_
      refine lv_aload_n hx hb d_R_takePivot_76 rfl (lv_at hl 0 rfl) ?_
      refine x_get C0 hw 12 rfl rfl i_R 7 (by decide) wm_172 rfl rfl d_R_takePivot_77 ?_
      refine x_put C0 hw 12 rfl rfl i_R tk_R n_R 14 (by decide) wm_179 rfl rfl rfl rfl (Nat.le_of_ble_eq_true rfl) (ws' := WB ad ca T_length T_bytes C_size C_given C_empty C_drafted C_draftedGiven C_block C_left C_right C_pivot C_positive C_negative C_live C_needed R_kind_10 R_place_11 R_at R_token R_tokenPlace R_number R_state R_block R_positive R_negative R_left R_right R_number L_of F_cut F_labelledA F_labelledB F_row A_root A_words A_known G_size G_variable G_low G_high G_numberOf G_nodeOf G_sides G_waiting B_table B_nextTable) rfl d_R_takePivot_80 (fun H locs hw => ?_)
      refine lv_aload_n hx hb d_R_takePivot_83 rfl (lv_at hl 0 rfl) ?_
      refine lv_bipush (v := 8) hx hb d_R_takePivot_84 (by decide) ?_
      refine x_put C0 hw 12 rfl rfl i_R tk_R n_R 8 (by decide) wm_173 rfl rfl rfl rfl (Nat.le_of_ble_eq_true rfl) (ws' := WB ad ca T_length T_bytes C_size C_given C_empty C_drafted C_draftedGiven C_block C_left C_right C_pivot C_positive C_negative C_live C_needed R_kind_10 R_place_11 R_at R_token R_tokenPlace R_number (8 : Int32) R_block R_positive R_negative R_left R_right R_number L_of F_cut F_labelledA F_labelledB F_row A_root A_words A_known G_size G_variable G_low G_high G_numberOf G_nodeOf G_sides G_waiting B_table B_nextTable) rfl d_R_takePivot_86 (fun H locs hw => ?_)
      exact x_vret C0 hw (R_kind_10, R_place_11, (8 : Int32), R_number) h rfl d_R_takePivot_89
  · have h := h.2 c_2
    refine lv_aload_n hx hb d_R_takePivot_10 rfl (lv_at hl 0 rfl) ?_
    refine lv_iconst (v := 2) hx hb d_R_takePivot_11 (by decide) ?_
    refine x_callVv C0 hw hl (c_R_fail h) g_R_fail wm_398 ⟨wm_6, wm_400⟩ 12 rfl rfl rfl (As := [.int (2 : Int32)]) (rest := []) rfl rfl (Nat.le_of_ble_eq_true rfl) ⟨rfl, rfl⟩ ⟨Nat.le_of_ble_eq_true rfl, Nat.le_of_ble_eq_true rfl⟩ ⟨Nat.le_of_ble_eq_true rfl, Nat.le_of_ble_eq_true rfl⟩ d_R_takePivot_12 (fun u H locs h hw => ?_)
    obtain ⟨R_kind_13, R_place_14⟩ := u
    refine lv_goto (tgt := 75) hx hb d_R_takePivot_15 (by decide) ?_
    refine lv_aload_n hx hb d_R_takePivot_75 rfl (lv_at hl 0 rfl) ?_
    refine lv_aload_n hx hb d_R_takePivot_76 rfl (lv_at hl 0 rfl) ?_
    refine x_get C0 hw 12 rfl rfl i_R 7 (by decide) wm_172 rfl rfl d_R_takePivot_77 ?_
    refine x_put C0 hw 12 rfl rfl i_R tk_R n_R 14 (by decide) wm_179 rfl rfl rfl rfl (Nat.le_of_ble_eq_true rfl) (ws' := WB ad ca T_length T_bytes C_size C_given C_empty C_drafted C_draftedGiven C_block C_left C_right C_pivot C_positive C_negative C_live C_needed R_kind_13 R_place_14 R_at R_token R_tokenPlace R_number R_state R_block R_positive R_negative R_left R_right R_number L_of F_cut F_labelledA F_labelledB F_row A_root A_words A_known G_size G_variable G_low G_high G_numberOf G_nodeOf G_sides G_waiting B_table B_nextTable) rfl d_R_takePivot_80 (fun H locs hw => ?_)
    refine lv_aload_n hx hb d_R_takePivot_83 rfl (lv_at hl 0 rfl) ?_
    refine lv_bipush (v := 8) hx hb d_R_takePivot_84 (by decide) ?_
    refine x_put C0 hw 12 rfl rfl i_R tk_R n_R 8 (by decide) wm_173 rfl rfl rfl rfl (Nat.le_of_ble_eq_true rfl) (ws' := WB ad ca T_length T_bytes C_size C_given C_empty C_drafted C_draftedGiven C_block C_left C_right C_pivot C_positive C_negative C_live C_needed R_kind_13 R_place_14 R_at R_token R_tokenPlace R_number (8 : Int32) R_block R_positive R_negative R_left R_right R_number L_of F_cut F_labelledA F_labelledB F_row A_root A_words A_known G_size G_variable G_low G_high G_numberOf G_nodeOf G_sides G_waiting B_table B_nextTable) rfl d_R_takePivot_86 (fun H locs hw => ?_)
    exact x_vret C0 hw (R_kind_13, R_place_14, (8 : Int32), R_number) h rfl d_R_takePivot_89
theorem g_R_takeNumber : GY y_R_takeNumber b_R_takeNumber 1 none 0 := ⟨wm_427, wm_56, by decide +kernel, by decide +kernel, by decide +kernel⟩
def p_R_takeNumber (C_drafted : Int32) (C_positive : Nat → Int32) (C_negative : Nat → Int32) (R_kind : Int32) (R_place : Int32) (R_token : Int32) (R_tokenPlace : Int32) (R_number : Int32) (R_state : Int32) (R_block : Int32) (R_positive : Int32) (R_negative : Int32) (R_left : Int32) (R_right : Int32) (R_pivot : Int32) (k : Int32 → Int32 → Int32 → Int32 → Int32 → Int32 → Int32 → Int32 → Int32 → Prop) : Prop :=
  ((R_token = (-2 : Int32) → ((R_state = (1 : Int32) → (p_R_takeBlock R_kind R_place R_tokenPlace R_number R_state R_block (fun (R_kind_3 : Int32) (R_place_4 : Int32) (R_state_5 : Int32) (R_block_6 : Int32) => (k R_kind_3 R_place_4 R_state_5 R_block_6 R_positive R_negative R_left R_right R_pivot)))) ∧ (R_state = (2 : Int32) → (p_R_takeLiteral R_kind R_place R_tokenPlace R_number R_state R_positive R_negative (fun (R_kind_9 : Int32) (R_place_10 : Int32) (R_state_11 : Int32) (R_positive_12 : Int32) (R_negative_13 : Int32) => (k R_kind_9 R_place_10 R_state_11 R_block R_positive_12 R_negative_13 R_left R_right R_pivot)))) ∧ (R_state = (3 : Int32) → (p_R_takeLiteral R_kind R_place R_tokenPlace R_number R_state R_positive R_negative (fun (R_kind_16 : Int32) (R_place_17 : Int32) (R_state_18 : Int32) (R_positive_19 : Int32) (R_negative_20 : Int32) => (k R_kind_16 R_place_17 R_state_18 R_block R_positive_19 R_negative_20 R_left R_right R_pivot)))) ∧ (R_state = (4 : Int32) → (p_R_takeLiteral R_kind R_place R_tokenPlace R_number R_state R_positive R_negative (fun (R_kind_23 : Int32) (R_place_24 : Int32) (R_state_25 : Int32) (R_positive_26 : Int32) (R_negative_27 : Int32) => (k R_kind_23 R_place_24 R_state_25 R_block R_positive_26 R_negative_27 R_left R_right R_pivot)))) ∧ (R_state = (5 : Int32) → (p_R_takeLeft C_drafted R_kind R_place R_tokenPlace R_number R_state R_left (fun (R_kind_30 : Int32) (R_place_31 : Int32) (R_state_32 : Int32) (R_left_33 : Int32) => (k R_kind_30 R_place_31 R_state_32 R_block R_positive R_negative R_left_33 R_right R_pivot)))) ∧ (R_state = (6 : Int32) → (p_R_takeRight C_drafted R_kind R_place R_tokenPlace R_number R_state R_right (fun (R_kind_36 : Int32) (R_place_37 : Int32) (R_state_38 : Int32) (R_right_39 : Int32) => (k R_kind_36 R_place_37 R_state_38 R_block R_positive R_negative R_left R_right_39 R_pivot)))) ∧ (R_state = (7 : Int32) → (p_R_takePivot C_positive C_negative R_kind R_place R_tokenPlace R_number R_left R_right (fun (R_kind_42 : Int32) (R_place_43 : Int32) (R_state_44 : Int32) (R_pivot_45 : Int32) => (k R_kind_42 R_place_43 R_state_44 R_block R_positive R_negative R_left R_right R_pivot_45)))) ∧ (¬ R_state = (1 : Int32) → ¬ R_state = (2 : Int32) → ¬ R_state = (3 : Int32) → ¬ R_state = (4 : Int32) → ¬ R_state = (5 : Int32) → ¬ R_state = (6 : Int32) → ¬ R_state = (7 : Int32) → (p_R_takeLiteral R_kind R_place R_tokenPlace R_number R_state R_positive R_negative (fun (R_kind_47 : Int32) (R_place_48 : Int32) (R_state_49 : Int32) (R_positive_50 : Int32) (R_negative_51 : Int32) => (k R_kind_47 R_place_48 R_state_49 R_block R_positive_50 R_negative_51 R_left R_right R_pivot)))))) ∧ (¬ R_token = (-2 : Int32) → (p_R_fail R_tokenPlace (1 : Int32) (fun (R_kind_53 : Int32) (R_place_54 : Int32) => (k R_kind_53 R_place_54 R_state R_block R_positive R_negative R_left R_right R_pivot)))))
abbrev rm_R_takeNumber : Room := { frames := 4, cells := 0, slots := 0, locals := 86 }
set_option maxHeartbeats 4000000 in
set_option maxRecDepth 100000 in
theorem c_R_takeNumber {l : Launch} {D : va_G} {ca : Nat → ClassId} {tp : Nat} {ad : Nat → Nat} {T_length : Int32} {T_bytes : Nat → Int32} {C_size : Int32} {C_given : Int32} {C_empty : Int32} {C_drafted : Int32} {C_draftedGiven : Int32} {C_block : Nat → Int32} {C_left : Nat → Int32} {C_right : Nat → Int32} {C_pivot : Nat → Int32} {C_positive : Nat → Int32} {C_negative : Nat → Int32} {C_live : Nat → Int32} {C_needed : Nat → Int32} {R_kind : Int32} {R_place : Int32} {R_at : Int32} {R_token : Int32} {R_tokenPlace : Int32} {R_number : Int32} {R_state : Int32} {R_block : Int32} {R_positive : Int32} {R_negative : Int32} {R_left : Int32} {R_right : Int32} {R_pivot : Int32} {L_of : Nat → Int32} {F_cut : Int32} {F_labelledA : Int32} {F_labelledB : Int32} {F_row : Nat → Int64} {A_root : Int32} {A_words : Nat → Int64} {A_known : Nat → Int32} {G_size : Int32} {G_variable : Nat → Int32} {G_low : Nat → Int32} {G_high : Nat → Int32} {G_numberOf : Nat → Int32} {G_nodeOf : Nat → Int32} {G_sides : Nat → Int32} {G_waiting : Nat → Int32} {B_table : Nat → Int64} {B_nextTable : Nat → Int64}  {k : Int32 → Int32 → Int32 → Int32 → Int32 → Int32 → Int32 → Int32 → Int32 → Prop} (h : p_R_takeNumber C_drafted C_positive C_negative R_kind R_place R_token R_tokenPlace R_number R_state R_block R_positive R_negative R_left R_right R_pivot k) :
    MTv l y_R_takeNumber b_R_takeNumber 1 none rm_R_takeNumber D ca tp [.ref (ad 12)] (WB ad ca T_length T_bytes C_size C_given C_empty C_drafted C_draftedGiven C_block C_left C_right C_pivot C_positive C_negative C_live C_needed R_kind R_place R_at R_token R_tokenPlace R_number R_state R_block R_positive R_negative R_left R_right R_pivot L_of F_cut F_labelledA F_labelledB F_row A_root A_words A_known G_size G_variable G_low G_high G_numberOf G_nodeOf G_sides G_waiting B_table B_nextTable)
      (fun (u : Int32 × Int32 × Int32 × Int32 × Int32 × Int32 × Int32 × Int32 × Int32) => k u.1 u.2.1 u.2.2.1 u.2.2.2.1 u.2.2.2.2.1 u.2.2.2.2.2.1 u.2.2.2.2.2.2.1 u.2.2.2.2.2.2.2.1 u.2.2.2.2.2.2.2.2)
      (fun (u : Int32 × Int32 × Int32 × Int32 × Int32 × Int32 × Int32 × Int32 × Int32) => WB ad ca T_length T_bytes C_size C_given C_empty C_drafted C_draftedGiven C_block C_left C_right C_pivot C_positive C_negative C_live C_needed u.1 u.2.1 R_at R_token R_tokenPlace R_number u.2.2.1 u.2.2.2.1 u.2.2.2.2.1 u.2.2.2.2.2.1 u.2.2.2.2.2.2.1 u.2.2.2.2.2.2.2.1 u.2.2.2.2.2.2.2.2 L_of F_cut F_labelledA F_labelledB F_row A_root A_words A_known G_size G_variable G_low G_high G_numberOf G_nodeOf G_sides G_waiting B_table B_nextTable) 0 0 := by
  refine x_entryv (own := R_R) (nm := "takeNumber") (by decide) rfl rfl (Nat.le_of_ble_eq_true rfl) (fun p e s m below meth c A ls C0 hw hl => ?_)
  have hx := C0.1
  have hb := C0.2.1
  have hl : lv_has ls 1 [(0, .ref (ad 12))] := hl
  unfold p_R_takeNumber at h
  refine lv_aload_n hx hb d_R_takeNumber_0 rfl (lv_at hl 0 rfl) ?_
  refine x_get C0 hw 12 rfl rfl i_R 5 (by decide) wm_170 rfl rfl d_R_takeNumber_1 ?_
  refine lv_bipush (v := -2) hx hb d_R_takeNumber_4 (by decide) ?_
  refine lv_icmp_eq (tgt := 15) hx hb d_R_takeNumber_6 (by decide) (fun c_1 => ?_) (fun c_1 => ?_)
  · have h := h.1 c_1
    refine lv_aload_n hx hb d_R_takeNumber_15 rfl (lv_at hl 0 rfl) ?_
    refine x_get C0 hw 12 rfl rfl i_R 8 (by decide) wm_173 rfl rfl d_R_takeNumber_16 ?_
    by_cases c_2 : R_state = (1 : Int32)
    · have h := h.1 c_2
      refine lv_tableIn (tgt := 60) (off := 41) hx hb d_R_takeNumber_19 (by rw [c_2]; decide) (by rw [c_2]; decide) (by rw [c_2]; rfl) (by decide) ?_
      refine lv_aload_n hx hb d_R_takeNumber_60 rfl (lv_at hl 0 rfl) ?_
      refine x_callVv C0 hw hl (c_R_takeBlock h) g_R_takeBlock wm_428 ⟨wm_12, wm_430⟩ 12 rfl rfl rfl (As := []) (rest := []) rfl rfl (Nat.le_of_ble_eq_true rfl) ⟨rfl, rfl⟩ ⟨Nat.le_of_ble_eq_true rfl, Nat.le_of_ble_eq_true rfl⟩ ⟨Nat.le_of_ble_eq_true rfl, Nat.le_of_ble_eq_true rfl⟩ d_R_takeNumber_61 (fun u H locs h hw => ?_)
      obtain ⟨R_kind_3, R_place_4, R_state_5, R_block_6⟩ := u
      refine lv_goto (tgt := 92) hx hb d_R_takeNumber_64 (by decide) ?_
      exact x_vret C0 hw (R_kind_3, R_place_4, R_state_5, R_block_6, R_positive, R_negative, R_left, R_right, R_pivot) h rfl d_R_takeNumber_92
    by_cases c_8 : R_state = (2 : Int32)
    · have h := h.2.1 c_8
      refine lv_tableIn (tgt := 88) (off := 69) hx hb d_R_takeNumber_19 (by rw [c_8]; decide) (by rw [c_8]; decide) (by rw [c_8]; rfl) (by decide) ?_
      refine lv_aload_n hx hb d_R_takeNumber_88 rfl (lv_at hl 0 rfl) ?_
      refine x_callVv C0 hw hl (c_R_takeLiteral h) g_R_takeLiteral wm_470 ⟨wm_18, wm_472⟩ 12 rfl rfl rfl (As := []) (rest := []) rfl rfl (Nat.le_of_ble_eq_true rfl) ⟨rfl, rfl⟩ ⟨Nat.le_of_ble_eq_true rfl, Nat.le_of_ble_eq_true rfl⟩ ⟨Nat.le_of_ble_eq_true rfl, Nat.le_of_ble_eq_true rfl⟩ d_R_takeNumber_89 (fun u H locs h hw => ?_)
      obtain ⟨R_kind_9, R_place_10, R_state_11, R_positive_12, R_negative_13⟩ := u
      exact x_vret C0 hw (R_kind_9, R_place_10, R_state_11, R_block, R_positive_12, R_negative_13, R_left, R_right, R_pivot) h rfl d_R_takeNumber_92
    by_cases c_15 : R_state = (3 : Int32)
    · have h := h.2.2.1 c_15
      refine lv_tableIn (tgt := 88) (off := 69) hx hb d_R_takeNumber_19 (by rw [c_15]; decide) (by rw [c_15]; decide) (by rw [c_15]; rfl) (by decide) ?_
      refine lv_aload_n hx hb d_R_takeNumber_88 rfl (lv_at hl 0 rfl) ?_
      refine x_callVv C0 hw hl (c_R_takeLiteral h) g_R_takeLiteral wm_470 ⟨wm_18, wm_472⟩ 12 rfl rfl rfl (As := []) (rest := []) rfl rfl (Nat.le_of_ble_eq_true rfl) ⟨rfl, rfl⟩ ⟨Nat.le_of_ble_eq_true rfl, Nat.le_of_ble_eq_true rfl⟩ ⟨Nat.le_of_ble_eq_true rfl, Nat.le_of_ble_eq_true rfl⟩ d_R_takeNumber_89 (fun u H locs h hw => ?_)
      obtain ⟨R_kind_16, R_place_17, R_state_18, R_positive_19, R_negative_20⟩ := u
      exact x_vret C0 hw (R_kind_16, R_place_17, R_state_18, R_block, R_positive_19, R_negative_20, R_left, R_right, R_pivot) h rfl d_R_takeNumber_92
    by_cases c_22 : R_state = (4 : Int32)
    · have h := h.2.2.2.1 c_22
      refine lv_tableIn (tgt := 88) (off := 69) hx hb d_R_takeNumber_19 (by rw [c_22]; decide) (by rw [c_22]; decide) (by rw [c_22]; rfl) (by decide) ?_
      refine lv_aload_n hx hb d_R_takeNumber_88 rfl (lv_at hl 0 rfl) ?_
      refine x_callVv C0 hw hl (c_R_takeLiteral h) g_R_takeLiteral wm_470 ⟨wm_18, wm_472⟩ 12 rfl rfl rfl (As := []) (rest := []) rfl rfl (Nat.le_of_ble_eq_true rfl) ⟨rfl, rfl⟩ ⟨Nat.le_of_ble_eq_true rfl, Nat.le_of_ble_eq_true rfl⟩ ⟨Nat.le_of_ble_eq_true rfl, Nat.le_of_ble_eq_true rfl⟩ d_R_takeNumber_89 (fun u H locs h hw => ?_)
      obtain ⟨R_kind_23, R_place_24, R_state_25, R_positive_26, R_negative_27⟩ := u
      exact x_vret C0 hw (R_kind_23, R_place_24, R_state_25, R_block, R_positive_26, R_negative_27, R_left, R_right, R_pivot) h rfl d_R_takeNumber_92
    by_cases c_29 : R_state = (5 : Int32)
    · have h := h.2.2.2.2.1 c_29
      refine lv_tableIn (tgt := 67) (off := 48) hx hb d_R_takeNumber_19 (by rw [c_29]; decide) (by rw [c_29]; decide) (by rw [c_29]; rfl) (by decide) ?_
      refine lv_aload_n hx hb d_R_takeNumber_67 rfl (lv_at hl 0 rfl) ?_
      refine x_callVv C0 hw hl (c_R_takeLeft h) g_R_takeLeft wm_432 ⟨wm_13, wm_434⟩ 12 rfl rfl rfl (As := []) (rest := []) rfl rfl (Nat.le_of_ble_eq_true rfl) ⟨rfl, rfl⟩ ⟨Nat.le_of_ble_eq_true rfl, Nat.le_of_ble_eq_true rfl⟩ ⟨Nat.le_of_ble_eq_true rfl, Nat.le_of_ble_eq_true rfl⟩ d_R_takeNumber_68 (fun u H locs h hw => ?_)
      obtain ⟨R_kind_30, R_place_31, R_state_32, R_left_33⟩ := u
      refine lv_goto (tgt := 92) hx hb d_R_takeNumber_71 (by decide) ?_
      exact x_vret C0 hw (R_kind_30, R_place_31, R_state_32, R_block, R_positive, R_negative, R_left_33, R_right, R_pivot) h rfl d_R_takeNumber_92
    by_cases c_35 : R_state = (6 : Int32)
    · have h := h.2.2.2.2.2.1 c_35
      refine lv_tableIn (tgt := 74) (off := 55) hx hb d_R_takeNumber_19 (by rw [c_35]; decide) (by rw [c_35]; decide) (by rw [c_35]; rfl) (by decide) ?_
      refine lv_aload_n hx hb d_R_takeNumber_74 rfl (lv_at hl 0 rfl) ?_
      refine x_callVv C0 hw hl (c_R_takeRight h) g_R_takeRight wm_440 ⟨wm_14, wm_442⟩ 12 rfl rfl rfl (As := []) (rest := []) rfl rfl (Nat.le_of_ble_eq_true rfl) ⟨rfl, rfl⟩ ⟨Nat.le_of_ble_eq_true rfl, Nat.le_of_ble_eq_true rfl⟩ ⟨Nat.le_of_ble_eq_true rfl, Nat.le_of_ble_eq_true rfl⟩ d_R_takeNumber_75 (fun u H locs h hw => ?_)
      obtain ⟨R_kind_36, R_place_37, R_state_38, R_right_39⟩ := u
      refine lv_goto (tgt := 92) hx hb d_R_takeNumber_78 (by decide) ?_
      exact x_vret C0 hw (R_kind_36, R_place_37, R_state_38, R_block, R_positive, R_negative, R_left, R_right_39, R_pivot) h rfl d_R_takeNumber_92
    by_cases c_41 : R_state = (7 : Int32)
    · have h := h.2.2.2.2.2.2.1 c_41
      refine lv_tableIn (tgt := 81) (off := 62) hx hb d_R_takeNumber_19 (by rw [c_41]; decide) (by rw [c_41]; decide) (by rw [c_41]; rfl) (by decide) ?_
      refine lv_aload_n hx hb d_R_takeNumber_81 rfl (lv_at hl 0 rfl) ?_
      refine x_callVv C0 hw hl (c_R_takePivot h) g_R_takePivot wm_444 ⟨wm_15, wm_446⟩ 12 rfl rfl rfl (As := []) (rest := []) rfl rfl (Nat.le_of_ble_eq_true rfl) ⟨rfl, rfl⟩ ⟨Nat.le_of_ble_eq_true rfl, Nat.le_of_ble_eq_true rfl⟩ ⟨Nat.le_of_ble_eq_true rfl, Nat.le_of_ble_eq_true rfl⟩ d_R_takeNumber_82 (fun u H locs h hw => ?_)
      obtain ⟨R_kind_42, R_place_43, R_state_44, R_pivot_45⟩ := u
      refine lv_goto (tgt := 92) hx hb d_R_takeNumber_85 (by decide) ?_
      exact x_vret C0 hw (R_kind_42, R_place_43, R_state_44, R_block, R_positive, R_negative, R_left, R_right, R_pivot_45) h rfl d_R_takeNumber_92
    have h := h.2.2.2.2.2.2.2 c_2 c_8 c_15 c_22 c_29 c_35 c_41
    refine lv_tableOut (tgt := 88) hx hb d_R_takeNumber_19 (by have q0 := lv_neT c_2 (a := 1) rfl; have q1 := lv_neT c_8 (a := 2) rfl; have q2 := lv_neT c_15 (a := 3) rfl; have q3 := lv_neT c_22 (a := 4) rfl; have q4 := lv_neT c_29 (a := 5) rfl; have q5 := lv_neT c_35 (a := 6) rfl; have q6 := lv_neT c_41 (a := 7) rfl; omega) (by decide) ?_
    refine lv_aload_n hx hb d_R_takeNumber_88 rfl (lv_at hl 0 rfl) ?_
    refine x_callVv C0 hw hl (c_R_takeLiteral h) g_R_takeLiteral wm_470 ⟨wm_18, wm_472⟩ 12 rfl rfl rfl (As := []) (rest := []) rfl rfl (Nat.le_of_ble_eq_true rfl) ⟨rfl, rfl⟩ ⟨Nat.le_of_ble_eq_true rfl, Nat.le_of_ble_eq_true rfl⟩ ⟨Nat.le_of_ble_eq_true rfl, Nat.le_of_ble_eq_true rfl⟩ d_R_takeNumber_89 (fun u H locs h hw => ?_)
    obtain ⟨R_kind_47, R_place_48, R_state_49, R_positive_50, R_negative_51⟩ := u
    exact x_vret C0 hw (R_kind_47, R_place_48, R_state_49, R_block, R_positive_50, R_negative_51, R_left, R_right, R_pivot) h rfl d_R_takeNumber_92
  · have h := h.2 c_1
    refine lv_aload_n hx hb d_R_takeNumber_9 rfl (lv_at hl 0 rfl) ?_
    refine lv_iconst (v := 1) hx hb d_R_takeNumber_10 (by decide) ?_
    refine x_callVv C0 hw hl (c_R_fail h) g_R_fail wm_398 ⟨wm_6, wm_400⟩ 12 rfl rfl rfl (As := [.int (1 : Int32)]) (rest := []) rfl rfl (Nat.le_of_ble_eq_true rfl) ⟨rfl, rfl⟩ ⟨Nat.le_of_ble_eq_true rfl, Nat.le_of_ble_eq_true rfl⟩ ⟨Nat.le_of_ble_eq_true rfl, Nat.le_of_ble_eq_true rfl⟩ d_R_takeNumber_11 (fun u H locs h hw => ?_)
    obtain ⟨R_kind_53, R_place_54⟩ := u
    exact x_vret C0 hw (R_kind_53, R_place_54, R_state, R_block, R_positive, R_negative, R_left, R_right, R_pivot) h rfl d_R_takeNumber_14
theorem g_R_takeInsideClause : GY y_R_takeInsideClause b_R_takeInsideClause 1 none 0 := ⟨wm_414, wm_56, by decide +kernel, by decide +kernel, by decide +kernel⟩
def p_R_takeInsideClause (C_drafted : Int32) (C_draftedGiven : Int32) (C_block : Nat → Int32) (C_left : Nat → Int32) (C_right : Nat → Int32) (C_pivot : Nat → Int32) (C_positive : Nat → Int32) (C_negative : Nat → Int32) (C_live : Nat → Int32) (R_kind : Int32) (R_place : Int32) (R_token : Int32) (R_tokenPlace : Int32) (R_number : Int32) (R_state : Int32) (R_block : Int32) (R_positive : Int32) (R_negative : Int32) (R_left : Int32) (R_right : Int32) (R_pivot : Int32) (k : Int32 → Int32 → (Nat → Int32) → (Nat → Int32) → (Nat → Int32) → (Nat → Int32) → (Nat → Int32) → (Nat → Int32) → (Nat → Int32) → Int32 → Int32 → Int32 → Int32 → Int32 → Int32 → Int32 → Int32 → Int32 → Prop) : Prop :=
  ((¬ R_token = (45 : Int32) → ((¬ R_token = (59 : Int32) → (p_R_takeNumber C_drafted C_positive C_negative R_kind R_place R_token R_tokenPlace R_number R_state R_block R_positive R_negative R_left R_right R_pivot (fun (R_kind_3 : Int32) (R_place_4 : Int32) (R_state_5 : Int32) (R_block_6 : Int32) (R_positive_7 : Int32) (R_negative_8 : Int32) (R_left_9 : Int32) (R_right_10 : Int32) (R_pivot_11 : Int32) => (k C_drafted C_draftedGiven C_block C_left C_right C_pivot C_positive C_negative C_live R_kind_3 R_place_4 R_state_5 R_block_6 R_positive_7 R_negative_8 R_left_9 R_right_10 R_pivot_11)))) ∧ (R_token = (59 : Int32) → (p_C_draftGiven C_drafted C_draftedGiven C_block C_left C_right C_pivot C_positive C_negative C_live R_block R_positive R_negative (fun (C_drafted_13 : Int32) (C_draftedGiven_14 : Int32) (C_block_15 : Nat → Int32) (C_left_16 : Nat → Int32) (C_right_17 : Nat → Int32) (C_pivot_18 : Nat → Int32) (C_positive_19 : Nat → Int32) (C_negative_20 : Nat → Int32) (C_live_21 : Nat → Int32) => (k C_drafted_13 C_draftedGiven_14 C_block_15 C_left_16 C_right_17 C_pivot_18 C_positive_19 C_negative_20 C_live_21 R_kind R_place (0 : Int32) R_block R_positive R_negative R_left R_right R_pivot)))))) ∧ (R_token = (45 : Int32) → (k C_drafted C_draftedGiven C_block C_left C_right C_pivot C_positive C_negative C_live R_kind R_place (4 : Int32) R_block R_positive R_negative R_left R_right R_pivot)))
abbrev rm_R_takeInsideClause : Room := { frames := 5, cells := 0, slots := 0, locals := 106 }
set_option maxHeartbeats 4000000 in
set_option maxRecDepth 100000 in
theorem c_R_takeInsideClause {l : Launch} {D : va_G} {ca : Nat → ClassId} {tp : Nat} {ad : Nat → Nat} {T_length : Int32} {T_bytes : Nat → Int32} {C_size : Int32} {C_given : Int32} {C_empty : Int32} {C_drafted : Int32} {C_draftedGiven : Int32} {C_block : Nat → Int32} {C_left : Nat → Int32} {C_right : Nat → Int32} {C_pivot : Nat → Int32} {C_positive : Nat → Int32} {C_negative : Nat → Int32} {C_live : Nat → Int32} {C_needed : Nat → Int32} {R_kind : Int32} {R_place : Int32} {R_at : Int32} {R_token : Int32} {R_tokenPlace : Int32} {R_number : Int32} {R_state : Int32} {R_block : Int32} {R_positive : Int32} {R_negative : Int32} {R_left : Int32} {R_right : Int32} {R_pivot : Int32} {L_of : Nat → Int32} {F_cut : Int32} {F_labelledA : Int32} {F_labelledB : Int32} {F_row : Nat → Int64} {A_root : Int32} {A_words : Nat → Int64} {A_known : Nat → Int32} {G_size : Int32} {G_variable : Nat → Int32} {G_low : Nat → Int32} {G_high : Nat → Int32} {G_numberOf : Nat → Int32} {G_nodeOf : Nat → Int32} {G_sides : Nat → Int32} {G_waiting : Nat → Int32} {B_table : Nat → Int64} {B_nextTable : Nat → Int64}  {k : Int32 → Int32 → (Nat → Int32) → (Nat → Int32) → (Nat → Int32) → (Nat → Int32) → (Nat → Int32) → (Nat → Int32) → (Nat → Int32) → Int32 → Int32 → Int32 → Int32 → Int32 → Int32 → Int32 → Int32 → Int32 → Prop} (h : p_R_takeInsideClause C_drafted C_draftedGiven C_block C_left C_right C_pivot C_positive C_negative C_live R_kind R_place R_token R_tokenPlace R_number R_state R_block R_positive R_negative R_left R_right R_pivot k) :
    MTv l y_R_takeInsideClause b_R_takeInsideClause 1 none rm_R_takeInsideClause D ca tp [.ref (ad 12)] (WB ad ca T_length T_bytes C_size C_given C_empty C_drafted C_draftedGiven C_block C_left C_right C_pivot C_positive C_negative C_live C_needed R_kind R_place R_at R_token R_tokenPlace R_number R_state R_block R_positive R_negative R_left R_right R_pivot L_of F_cut F_labelledA F_labelledB F_row A_root A_words A_known G_size G_variable G_low G_high G_numberOf G_nodeOf G_sides G_waiting B_table B_nextTable)
      (fun (u : Int32 × Int32 × (Nat → Int32) × (Nat → Int32) × (Nat → Int32) × (Nat → Int32) × (Nat → Int32) × (Nat → Int32) × (Nat → Int32) × Int32 × Int32 × Int32 × Int32 × Int32 × Int32 × Int32 × Int32 × Int32) => k u.1 u.2.1 u.2.2.1 u.2.2.2.1 u.2.2.2.2.1 u.2.2.2.2.2.1 u.2.2.2.2.2.2.1 u.2.2.2.2.2.2.2.1 u.2.2.2.2.2.2.2.2.1 u.2.2.2.2.2.2.2.2.2.1 u.2.2.2.2.2.2.2.2.2.2.1 u.2.2.2.2.2.2.2.2.2.2.2.1 u.2.2.2.2.2.2.2.2.2.2.2.2.1 u.2.2.2.2.2.2.2.2.2.2.2.2.2.1 u.2.2.2.2.2.2.2.2.2.2.2.2.2.2.1 u.2.2.2.2.2.2.2.2.2.2.2.2.2.2.2.1 u.2.2.2.2.2.2.2.2.2.2.2.2.2.2.2.2.1 u.2.2.2.2.2.2.2.2.2.2.2.2.2.2.2.2.2)
      (fun (u : Int32 × Int32 × (Nat → Int32) × (Nat → Int32) × (Nat → Int32) × (Nat → Int32) × (Nat → Int32) × (Nat → Int32) × (Nat → Int32) × Int32 × Int32 × Int32 × Int32 × Int32 × Int32 × Int32 × Int32 × Int32) => WB ad ca T_length T_bytes C_size C_given C_empty u.1 u.2.1 u.2.2.1 u.2.2.2.1 u.2.2.2.2.1 u.2.2.2.2.2.1 u.2.2.2.2.2.2.1 u.2.2.2.2.2.2.2.1 u.2.2.2.2.2.2.2.2.1 C_needed u.2.2.2.2.2.2.2.2.2.1 u.2.2.2.2.2.2.2.2.2.2.1 R_at R_token R_tokenPlace R_number u.2.2.2.2.2.2.2.2.2.2.2.1 u.2.2.2.2.2.2.2.2.2.2.2.2.1 u.2.2.2.2.2.2.2.2.2.2.2.2.2.1 u.2.2.2.2.2.2.2.2.2.2.2.2.2.2.1 u.2.2.2.2.2.2.2.2.2.2.2.2.2.2.2.1 u.2.2.2.2.2.2.2.2.2.2.2.2.2.2.2.2.1 u.2.2.2.2.2.2.2.2.2.2.2.2.2.2.2.2.2 L_of F_cut F_labelledA F_labelledB F_row A_root A_words A_known G_size G_variable G_low G_high G_numberOf G_nodeOf G_sides G_waiting B_table B_nextTable) 0 0 := by
  refine x_entryv (own := R_R) (nm := "takeInsideClause") (by decide) rfl rfl (Nat.le_of_ble_eq_true rfl) (fun p e s m below meth c A ls C0 hw hl => ?_)
  have hx := C0.1
  have hb := C0.2.1
  have hl : lv_has ls 1 [(0, .ref (ad 12))] := hl
  unfold p_R_takeInsideClause at h
  refine lv_aload_n hx hb d_R_takeInsideClause_0 rfl (lv_at hl 0 rfl) ?_
  refine x_get C0 hw 12 rfl rfl i_R 5 (by decide) wm_170 rfl rfl d_R_takeInsideClause_1 ?_
  refine lv_bipush (v := 45) hx hb d_R_takeInsideClause_4 (by decide) ?_
  refine lv_icmp_ne (tgt := 17) hx hb d_R_takeInsideClause_6 (by decide) (fun c_1 => ?_) (fun c_1 => ?_)
  · have h := h.1 c_1
    refine lv_aload_n hx hb d_R_takeInsideClause_17 rfl (lv_at hl 0 rfl) ?_
    refine x_get C0 hw 12 rfl rfl i_R 5 (by decide) wm_170 rfl rfl d_R_takeInsideClause_18 ?_
    refine lv_bipush (v := 59) hx hb d_R_takeInsideClause_21 (by decide) ?_
    refine lv_icmp_ne (tgt := 53) hx hb d_R_takeInsideClause_23 (by decide) (fun c_2 => ?_) (fun c_2 => ?_)
    · have h := h.1 c_2
      refine lv_aload_n hx hb d_R_takeInsideClause_53 rfl (lv_at hl 0 rfl) ?_
      refine x_callVv C0 hw hl (c_R_takeNumber h) g_R_takeNumber wm_424 ⟨wm_11, wm_426⟩ 12 rfl rfl rfl (As := []) (rest := []) rfl rfl (Nat.le_of_ble_eq_true rfl) ⟨rfl, rfl⟩ ⟨Nat.le_of_ble_eq_true rfl, Nat.le_of_ble_eq_true rfl⟩ ⟨Nat.le_of_ble_eq_true rfl, Nat.le_of_ble_eq_true rfl⟩ d_R_takeInsideClause_54 (fun u H locs h hw => ?_)
      obtain ⟨R_kind_3, R_place_4, R_state_5, R_block_6, R_positive_7, R_negative_8, R_left_9, R_right_10, R_pivot_11⟩ := u
      exact x_vret C0 hw (C_drafted, C_draftedGiven, C_block, C_left, C_right, C_pivot, C_positive, C_negative, C_live, R_kind_3, R_place_4, R_state_5, R_block_6, R_positive_7, R_negative_8, R_left_9, R_right_10, R_pivot_11) h rfl d_R_takeInsideClause_57
    · have h := h.2 c_2
      refine lv_aload_n hx hb d_R_takeInsideClause_26 rfl (lv_at hl 0 rfl) ?_
      refine x_get C0 hw 12 rfl rfl i_R 1 (by decide) wm_164 rfl rfl d_R_takeInsideClause_27 ?_
      refine lv_aload_n hx hb d_R_takeInsideClause_30 rfl (lv_at hl 0 rfl) ?_
      refine x_get C0 hw 12 rfl rfl i_R 9 (by decide) wm_174 rfl rfl d_R_takeInsideClause_31 ?_
      refine lv_aload_n hx hb d_R_takeInsideClause_34 rfl (lv_at hl 0 rfl) ?_
      refine x_get C0 hw 12 rfl rfl i_R 10 (by decide) wm_175 rfl rfl d_R_takeInsideClause_35 ?_
      refine lv_aload_n hx hb d_R_takeInsideClause_38 rfl (lv_at hl 0 rfl) ?_
      refine x_get C0 hw 12 rfl rfl i_R 11 (by decide) wm_176 rfl rfl d_R_takeInsideClause_39 ?_
      refine x_callVv C0 hw hl (c_C_draftGiven h) g_C_draftGiven wm_415 ⟨wm_417, wm_416⟩ 3 rfl rfl rfl (As := [.int R_block, .int R_positive, .int R_negative]) (rest := []) rfl rfl (Nat.le_of_ble_eq_true rfl) ⟨rfl, rfl⟩ ⟨Nat.le_of_ble_eq_true rfl, Nat.le_of_ble_eq_true rfl⟩ ⟨Nat.le_of_ble_eq_true rfl, Nat.le_of_ble_eq_true rfl⟩ d_R_takeInsideClause_42 (fun u H locs h hw => ?_)
      obtain ⟨C_drafted_13, C_draftedGiven_14, C_block_15, C_left_16, C_right_17, C_pivot_18, C_positive_19, C_negative_20, C_live_21⟩ := u
      refine lv_aload_n hx hb d_R_takeInsideClause_45 rfl (lv_at hl 0 rfl) ?_
      refine lv_iconst (v := 0) hx hb d_R_takeInsideClause_46 (by decide) ?_
      refine x_put C0 hw 12 rfl rfl i_R tk_R n_R 8 (by decide) wm_173 rfl rfl rfl rfl (Nat.le_of_ble_eq_true rfl) (ws' := WB ad ca T_length T_bytes C_size C_given C_empty C_drafted_13 C_draftedGiven_14 C_block_15 C_left_16 C_right_17 C_pivot_18 C_positive_19 C_negative_20 C_live_21 C_needed R_kind R_place R_at R_token R_tokenPlace R_number (0 : Int32) R_block R_positive R_negative R_left R_right R_pivot L_of F_cut F_labelledA F_labelledB F_row A_root A_words A_known G_size G_variable G_low G_high G_numberOf G_nodeOf G_sides G_waiting B_table B_nextTable) rfl d_R_takeInsideClause_47 (fun H locs hw => ?_)
      refine lv_goto (tgt := 57) hx hb d_R_takeInsideClause_50 (by decide) ?_
      exact x_vret C0 hw (C_drafted_13, C_draftedGiven_14, C_block_15, C_left_16, C_right_17, C_pivot_18, C_positive_19, C_negative_20, C_live_21, R_kind, R_place, (0 : Int32), R_block, R_positive, R_negative, R_left, R_right, R_pivot) h rfl d_R_takeInsideClause_57
  · have h := h.2 c_1
    refine lv_aload_n hx hb d_R_takeInsideClause_9 rfl (lv_at hl 0 rfl) ?_
    refine lv_iconst (v := 4) hx hb d_R_takeInsideClause_10 (by decide) ?_
    refine x_put C0 hw 12 rfl rfl i_R tk_R n_R 8 (by decide) wm_173 rfl rfl rfl rfl (Nat.le_of_ble_eq_true rfl) (ws' := WB ad ca T_length T_bytes C_size C_given C_empty C_drafted C_draftedGiven C_block C_left C_right C_pivot C_positive C_negative C_live C_needed R_kind R_place R_at R_token R_tokenPlace R_number (4 : Int32) R_block R_positive R_negative R_left R_right R_pivot L_of F_cut F_labelledA F_labelledB F_row A_root A_words A_known G_size G_variable G_low G_high G_numberOf G_nodeOf G_sides G_waiting B_table B_nextTable) rfl d_R_takeInsideClause_11 (fun H locs hw => ?_)
    refine lv_goto (tgt := 57) hx hb d_R_takeInsideClause_14 (by decide) ?_
    exact x_vret C0 hw (C_drafted, C_draftedGiven, C_block, C_left, C_right, C_pivot, C_positive, C_negative, C_live, R_kind, R_place, (4 : Int32), R_block, R_positive, R_negative, R_left, R_right, R_pivot) h rfl d_R_takeInsideClause_57
theorem g_R_takeClose : GY y_R_takeClose b_R_takeClose 1 none 0 := ⟨wm_478, wm_56, by decide +kernel, by decide +kernel, by decide +kernel⟩
def p_R_takeClose (C_drafted : Int32) (C_block : Nat → Int32) (C_left : Nat → Int32) (C_right : Nat → Int32) (C_pivot : Nat → Int32) (C_positive : Nat → Int32) (C_negative : Nat → Int32) (C_live : Nat → Int32) (R_kind : Int32) (R_place : Int32) (R_token : Int32) (R_tokenPlace : Int32) (R_state : Int32) (R_left : Int32) (R_right : Int32) (R_pivot : Int32) (k : Int32 → (Nat → Int32) → (Nat → Int32) → (Nat → Int32) → (Nat → Int32) → (Nat → Int32) → (Nat → Int32) → (Nat → Int32) → Int32 → Int32 → Int32 → Prop) : Prop :=
  ((¬ R_token = (59 : Int32) → (p_R_fail R_tokenPlace (1 : Int32) (fun (R_kind_2 : Int32) (R_place_3 : Int32) => (k C_drafted C_block C_left C_right C_pivot C_positive C_negative C_live R_kind_2 R_place_3 R_state)))) ∧ (R_token = (59 : Int32) → (p_C_draftResolvent C_drafted C_block C_left C_right C_pivot C_positive C_negative C_live R_left R_right R_pivot (fun (C_drafted_5 : Int32) (C_block_6 : Nat → Int32) (C_left_7 : Nat → Int32) (C_right_8 : Nat → Int32) (C_pivot_9 : Nat → Int32) (C_positive_10 : Nat → Int32) (C_negative_11 : Nat → Int32) (C_live_12 : Nat → Int32) => (k C_drafted_5 C_block_6 C_left_7 C_right_8 C_pivot_9 C_positive_10 C_negative_11 C_live_12 R_kind R_place (0 : Int32))))))
abbrev rm_R_takeClose : Room := { frames := 3, cells := 0, slots := 0, locals := 66 }
set_option maxHeartbeats 4000000 in
set_option maxRecDepth 100000 in
theorem c_R_takeClose {l : Launch} {D : va_G} {ca : Nat → ClassId} {tp : Nat} {ad : Nat → Nat} {T_length : Int32} {T_bytes : Nat → Int32} {C_size : Int32} {C_given : Int32} {C_empty : Int32} {C_drafted : Int32} {C_draftedGiven : Int32} {C_block : Nat → Int32} {C_left : Nat → Int32} {C_right : Nat → Int32} {C_pivot : Nat → Int32} {C_positive : Nat → Int32} {C_negative : Nat → Int32} {C_live : Nat → Int32} {C_needed : Nat → Int32} {R_kind : Int32} {R_place : Int32} {R_at : Int32} {R_token : Int32} {R_tokenPlace : Int32} {R_number : Int32} {R_state : Int32} {R_block : Int32} {R_positive : Int32} {R_negative : Int32} {R_left : Int32} {R_right : Int32} {R_pivot : Int32} {L_of : Nat → Int32} {F_cut : Int32} {F_labelledA : Int32} {F_labelledB : Int32} {F_row : Nat → Int64} {A_root : Int32} {A_words : Nat → Int64} {A_known : Nat → Int32} {G_size : Int32} {G_variable : Nat → Int32} {G_low : Nat → Int32} {G_high : Nat → Int32} {G_numberOf : Nat → Int32} {G_nodeOf : Nat → Int32} {G_sides : Nat → Int32} {G_waiting : Nat → Int32} {B_table : Nat → Int64} {B_nextTable : Nat → Int64}  {k : Int32 → (Nat → Int32) → (Nat → Int32) → (Nat → Int32) → (Nat → Int32) → (Nat → Int32) → (Nat → Int32) → (Nat → Int32) → Int32 → Int32 → Int32 → Prop} (h : p_R_takeClose C_drafted C_block C_left C_right C_pivot C_positive C_negative C_live R_kind R_place R_token R_tokenPlace R_state R_left R_right R_pivot k) :
    MTv l y_R_takeClose b_R_takeClose 1 none rm_R_takeClose D ca tp [.ref (ad 12)] (WB ad ca T_length T_bytes C_size C_given C_empty C_drafted C_draftedGiven C_block C_left C_right C_pivot C_positive C_negative C_live C_needed R_kind R_place R_at R_token R_tokenPlace R_number R_state R_block R_positive R_negative R_left R_right R_pivot L_of F_cut F_labelledA F_labelledB F_row A_root A_words A_known G_size G_variable G_low G_high G_numberOf G_nodeOf G_sides G_waiting B_table B_nextTable)
      (fun (u : Int32 × (Nat → Int32) × (Nat → Int32) × (Nat → Int32) × (Nat → Int32) × (Nat → Int32) × (Nat → Int32) × (Nat → Int32) × Int32 × Int32 × Int32) => k u.1 u.2.1 u.2.2.1 u.2.2.2.1 u.2.2.2.2.1 u.2.2.2.2.2.1 u.2.2.2.2.2.2.1 u.2.2.2.2.2.2.2.1 u.2.2.2.2.2.2.2.2.1 u.2.2.2.2.2.2.2.2.2.1 u.2.2.2.2.2.2.2.2.2.2)
      (fun (u : Int32 × (Nat → Int32) × (Nat → Int32) × (Nat → Int32) × (Nat → Int32) × (Nat → Int32) × (Nat → Int32) × (Nat → Int32) × Int32 × Int32 × Int32) => WB ad ca T_length T_bytes C_size C_given C_empty u.1 C_draftedGiven u.2.1 u.2.2.1 u.2.2.2.1 u.2.2.2.2.1 u.2.2.2.2.2.1 u.2.2.2.2.2.2.1 u.2.2.2.2.2.2.2.1 C_needed u.2.2.2.2.2.2.2.2.1 u.2.2.2.2.2.2.2.2.2.1 R_at R_token R_tokenPlace R_number u.2.2.2.2.2.2.2.2.2.2 R_block R_positive R_negative R_left R_right R_pivot L_of F_cut F_labelledA F_labelledB F_row A_root A_words A_known G_size G_variable G_low G_high G_numberOf G_nodeOf G_sides G_waiting B_table B_nextTable) 0 0 := by
  refine x_entryv (own := R_R) (nm := "takeClose") (by decide) rfl rfl (Nat.le_of_ble_eq_true rfl) (fun p e s m below meth c A ls C0 hw hl => ?_)
  have hx := C0.1
  have hb := C0.2.1
  have hl : lv_has ls 1 [(0, .ref (ad 12))] := hl
  unfold p_R_takeClose at h
  refine lv_aload_n hx hb d_R_takeClose_0 rfl (lv_at hl 0 rfl) ?_
  refine x_get C0 hw 12 rfl rfl i_R 5 (by decide) wm_170 rfl rfl d_R_takeClose_1 ?_
  refine lv_bipush (v := 59) hx hb d_R_takeClose_4 (by decide) ?_
  refine lv_icmp_ne (tgt := 36) hx hb d_R_takeClose_6 (by decide) (fun c_1 => ?_) (fun c_1 => ?_)
  · have h := h.1 c_1
    refine lv_aload_n hx hb d_R_takeClose_36 rfl (lv_at hl 0 rfl) ?_
    refine lv_iconst (v := 1) hx hb d_R_takeClose_37 (by decide) ?_
    refine x_callVv C0 hw hl (c_R_fail h) g_R_fail wm_398 ⟨wm_6, wm_400⟩ 12 rfl rfl rfl (As := [.int (1 : Int32)]) (rest := []) rfl rfl (Nat.le_of_ble_eq_true rfl) ⟨rfl, rfl⟩ ⟨Nat.le_of_ble_eq_true rfl, Nat.le_of_ble_eq_true rfl⟩ ⟨Nat.le_of_ble_eq_true rfl, Nat.le_of_ble_eq_true rfl⟩ d_R_takeClose_38 (fun u H locs h hw => ?_)
    obtain ⟨R_kind_2, R_place_3⟩ := u
    exact x_vret C0 hw (C_drafted, C_block, C_left, C_right, C_pivot, C_positive, C_negative, C_live, R_kind_2, R_place_3, R_state) h rfl d_R_takeClose_41
  · have h := h.2 c_1
    refine lv_aload_n hx hb d_R_takeClose_9 rfl (lv_at hl 0 rfl) ?_
    refine x_get C0 hw 12 rfl rfl i_R 1 (by decide) wm_164 rfl rfl d_R_takeClose_10 ?_
    refine lv_aload_n hx hb d_R_takeClose_13 rfl (lv_at hl 0 rfl) ?_
    refine x_get C0 hw 12 rfl rfl i_R 12 (by decide) wm_177 rfl rfl d_R_takeClose_14 ?_
    refine lv_aload_n hx hb d_R_takeClose_17 rfl (lv_at hl 0 rfl) ?_
    refine x_get C0 hw 12 rfl rfl i_R 13 (by decide) wm_178 rfl rfl d_R_takeClose_18 ?_
    refine lv_aload_n hx hb d_R_takeClose_21 rfl (lv_at hl 0 rfl) ?_
    refine x_get C0 hw 12 rfl rfl i_R 14 (by decide) wm_179 rfl rfl d_R_takeClose_22 ?_
    refine x_callVv C0 hw hl (c_C_draftResolvent h) g_C_draftResolvent wm_479 ⟨wm_481, wm_480⟩ 3 rfl rfl rfl (As := [.int R_left, .int R_right, .int R_pivot]) (rest := []) rfl rfl (Nat.le_of_ble_eq_true rfl) ⟨rfl, rfl⟩ ⟨Nat.le_of_ble_eq_true rfl, Nat.le_of_ble_eq_true rfl⟩ ⟨Nat.le_of_ble_eq_true rfl, Nat.le_of_ble_eq_true rfl⟩ d_R_takeClose_25 (fun u H locs h hw => ?_)
    obtain ⟨C_drafted_5, C_block_6, C_left_7, C_right_8, C_pivot_9, C_positive_10, C_negative_11, C_live_12⟩ := u
    refine lv_aload_n hx hb d_R_takeClose_28 rfl (lv_at hl 0 rfl) ?_
    refine lv_iconst (v := 0) hx hb d_R_takeClose_29 (by decide) ?_
    refine x_put C0 hw 12 rfl rfl i_R tk_R n_R 8 (by decide) wm_173 rfl rfl rfl rfl (Nat.le_of_ble_eq_true rfl) (ws' := WB ad ca T_length T_bytes C_size C_given C_empty C_drafted_5 C_draftedGiven C_block_6 C_left_7 C_right_8 C_pivot_9 C_positive_10 C_negative_11 C_live_12 C_needed R_kind R_place R_at R_token R_tokenPlace R_number (0 : Int32) R_block R_positive R_negative R_left R_right R_pivot L_of F_cut F_labelledA F_labelledB F_row A_root A_words A_known G_size G_variable G_low G_high G_numberOf G_nodeOf G_sides G_waiting B_table B_nextTable) rfl d_R_takeClose_30 (fun H locs hw => ?_)
    refine lv_goto (tgt := 41) hx hb d_R_takeClose_33 (by decide) ?_
    exact x_vret C0 hw (C_drafted_5, C_block_6, C_left_7, C_right_8, C_pivot_9, C_positive_10, C_negative_11, C_live_12, R_kind, R_place, (0 : Int32)) h rfl d_R_takeClose_41
theorem g_R_takeToken : GY y_R_takeToken b_R_takeToken 1 none 0 := ⟨wm_381, wm_56, by decide +kernel, by decide +kernel, by decide +kernel⟩
def p_R_takeToken (C_drafted : Int32) (C_draftedGiven : Int32) (C_block : Nat → Int32) (C_left : Nat → Int32) (C_right : Nat → Int32) (C_pivot : Nat → Int32) (C_positive : Nat → Int32) (C_negative : Nat → Int32) (C_live : Nat → Int32) (R_kind : Int32) (R_place : Int32) (R_token : Int32) (R_tokenPlace : Int32) (R_number : Int32) (R_state : Int32) (R_block : Int32) (R_positive : Int32) (R_negative : Int32) (R_left : Int32) (R_right : Int32) (R_pivot : Int32) (k : Int32 → Int32 → (Nat → Int32) → (Nat → Int32) → (Nat → Int32) → (Nat → Int32) → (Nat → Int32) → (Nat → Int32) → (Nat → Int32) → Int32 → Int32 → Int32 → Int32 → Int32 → Int32 → Int32 → Int32 → Int32 → Prop) : Prop :=
  ((R_state = (0 : Int32) → (p_R_takeStart C_drafted C_draftedGiven R_kind R_place R_token R_tokenPlace R_state (fun (R_kind_2 : Int32) (R_place_3 : Int32) (R_state_4 : Int32) => (k C_drafted C_draftedGiven C_block C_left C_right C_pivot C_positive C_negative C_live R_kind_2 R_place_3 R_state_4 R_block R_positive R_negative R_left R_right R_pivot)))) ∧ (R_state = (1 : Int32) → (p_R_takeNumber C_drafted C_positive C_negative R_kind R_place R_token R_tokenPlace R_number R_state R_block R_positive R_negative R_left R_right R_pivot (fun (R_kind_7 : Int32) (R_place_8 : Int32) (R_state_9 : Int32) (R_block_10 : Int32) (R_positive_11 : Int32) (R_negative_12 : Int32) (R_left_13 : Int32) (R_right_14 : Int32) (R_pivot_15 : Int32) => (k C_drafted C_draftedGiven C_block C_left C_right C_pivot C_positive C_negative C_live R_kind_7 R_place_8 R_state_9 R_block_10 R_positive_11 R_negative_12 R_left_13 R_right_14 R_pivot_15)))) ∧ (R_state = (2 : Int32) → (p_R_takeColon R_kind R_place R_token R_tokenPlace R_state R_positive R_negative (fun (R_kind_18 : Int32) (R_place_19 : Int32) (R_state_20 : Int32) (R_positive_21 : Int32) (R_negative_22 : Int32) => (k C_drafted C_draftedGiven C_block C_left C_right C_pivot C_positive C_negative C_live R_kind_18 R_place_19 R_state_20 R_block R_positive_21 R_negative_22 R_left R_right R_pivot)))) ∧ (R_state = (3 : Int32) → (p_R_takeInsideClause C_drafted C_draftedGiven C_block C_left C_right C_pivot C_positive C_negative C_live R_kind R_place R_token R_tokenPlace R_number R_state R_block R_positive R_negative R_left R_right R_pivot (fun (C_drafted_25 : Int32) (C_draftedGiven_26 : Int32) (C_block_27 : Nat → Int32) (C_left_28 : Nat → Int32) (C_right_29 : Nat → Int32) (C_pivot_30 : Nat → Int32) (C_positive_31 : Nat → Int32) (C_negative_32 : Nat → Int32) (C_live_33 : Nat → Int32) (R_kind_34 : Int32) (R_place_35 : Int32) (R_state_36 : Int32) (R_block_37 : Int32) (R_positive_38 : Int32) (R_negative_39 : Int32) (R_left_40 : Int32) (R_right_41 : Int32) (R_pivot_42 : Int32) => (k C_drafted_25 C_draftedGiven_26 C_block_27 C_left_28 C_right_29 C_pivot_30 C_positive_31 C_negative_32 C_live_33 R_kind_34 R_place_35 R_state_36 R_block_37 R_positive_38 R_negative_39 R_left_40 R_right_41 R_pivot_42)))) ∧ (R_state = (4 : Int32) → (p_R_takeNumber C_drafted C_positive C_negative R_kind R_place R_token R_tokenPlace R_number R_state R_block R_positive R_negative R_left R_right R_pivot (fun (R_kind_45 : Int32) (R_place_46 : Int32) (R_state_47 : Int32) (R_block_48 : Int32) (R_positive_49 : Int32) (R_negative_50 : Int32) (R_left_51 : Int32) (R_right_52 : Int32) (R_pivot_53 : Int32) => (k C_drafted C_draftedGiven C_block C_left C_right C_pivot C_positive C_negative C_live R_kind_45 R_place_46 R_state_47 R_block_48 R_positive_49 R_negative_50 R_left_51 R_right_52 R_pivot_53)))) ∧ (R_state = (5 : Int32) → (p_R_takeNumber C_drafted C_positive C_negative R_kind R_place R_token R_tokenPlace R_number R_state R_block R_positive R_negative R_left R_right R_pivot (fun (R_kind_56 : Int32) (R_place_57 : Int32) (R_state_58 : Int32) (R_block_59 : Int32) (R_positive_60 : Int32) (R_negative_61 : Int32) (R_left_62 : Int32) (R_right_63 : Int32) (R_pivot_64 : Int32) => (k C_drafted C_draftedGiven C_block C_left C_right C_pivot C_positive C_negative C_live R_kind_56 R_place_57 R_state_58 R_block_59 R_positive_60 R_negative_61 R_left_62 R_right_63 R_pivot_64)))) ∧ (R_state = (6 : Int32) → (p_R_takeNumber C_drafted C_positive C_negative R_kind R_place R_token R_tokenPlace R_number R_state R_block R_positive R_negative R_left R_right R_pivot (fun (R_kind_67 : Int32) (R_place_68 : Int32) (R_state_69 : Int32) (R_block_70 : Int32) (R_positive_71 : Int32) (R_negative_72 : Int32) (R_left_73 : Int32) (R_right_74 : Int32) (R_pivot_75 : Int32) => (k C_drafted C_draftedGiven C_block C_left C_right C_pivot C_positive C_negative C_live R_kind_67 R_place_68 R_state_69 R_block_70 R_positive_71 R_negative_72 R_left_73 R_right_74 R_pivot_75)))) ∧ (R_state = (7 : Int32) → (p_R_takeNumber C_drafted C_positive C_negative R_kind R_place R_token R_tokenPlace R_number R_state R_block R_positive R_negative R_left R_right R_pivot (fun (R_kind_78 : Int32) (R_place_79 : Int32) (R_state_80 : Int32) (R_block_81 : Int32) (R_positive_82 : Int32) (R_negative_83 : Int32) (R_left_84 : Int32) (R_right_85 : Int32) (R_pivot_86 : Int32) => (k C_drafted C_draftedGiven C_block C_left C_right C_pivot C_positive C_negative C_live R_kind_78 R_place_79 R_state_80 R_block_81 R_positive_82 R_negative_83 R_left_84 R_right_85 R_pivot_86)))) ∧ (R_state = (8 : Int32) → (p_R_takeClose C_drafted C_block C_left C_right C_pivot C_positive C_negative C_live R_kind R_place R_token R_tokenPlace R_state R_left R_right R_pivot (fun (C_drafted_89 : Int32) (C_block_90 : Nat → Int32) (C_left_91 : Nat → Int32) (C_right_92 : Nat → Int32) (C_pivot_93 : Nat → Int32) (C_positive_94 : Nat → Int32) (C_negative_95 : Nat → Int32) (C_live_96 : Nat → Int32) (R_kind_97 : Int32) (R_place_98 : Int32) (R_state_99 : Int32) => (k C_drafted_89 C_draftedGiven C_block_90 C_left_91 C_right_92 C_pivot_93 C_positive_94 C_negative_95 C_live_96 R_kind_97 R_place_98 R_state_99 R_block R_positive R_negative R_left R_right R_pivot)))) ∧ (¬ R_state = (0 : Int32) → ¬ R_state = (1 : Int32) → ¬ R_state = (2 : Int32) → ¬ R_state = (3 : Int32) → ¬ R_state = (4 : Int32) → ¬ R_state = (5 : Int32) → ¬ R_state = (6 : Int32) → ¬ R_state = (7 : Int32) → ¬ R_state = (8 : Int32) → (p_R_takeNumber C_drafted C_positive C_negative R_kind R_place R_token R_tokenPlace R_number R_state R_block R_positive R_negative R_left R_right R_pivot (fun (R_kind_101 : Int32) (R_place_102 : Int32) (R_state_103 : Int32) (R_block_104 : Int32) (R_positive_105 : Int32) (R_negative_106 : Int32) (R_left_107 : Int32) (R_right_108 : Int32) (R_pivot_109 : Int32) => (k C_drafted C_draftedGiven C_block C_left C_right C_pivot C_positive C_negative C_live R_kind_101 R_place_102 R_state_103 R_block_104 R_positive_105 R_negative_106 R_left_107 R_right_108 R_pivot_109)))))
abbrev rm_R_takeToken : Room := { frames := 6, cells := 0, slots := 0, locals := 126 }
set_option maxHeartbeats 4000000 in
set_option maxRecDepth 100000 in
theorem c_R_takeToken {l : Launch} {D : va_G} {ca : Nat → ClassId} {tp : Nat} {ad : Nat → Nat} {T_length : Int32} {T_bytes : Nat → Int32} {C_size : Int32} {C_given : Int32} {C_empty : Int32} {C_drafted : Int32} {C_draftedGiven : Int32} {C_block : Nat → Int32} {C_left : Nat → Int32} {C_right : Nat → Int32} {C_pivot : Nat → Int32} {C_positive : Nat → Int32} {C_negative : Nat → Int32} {C_live : Nat → Int32} {C_needed : Nat → Int32} {R_kind : Int32} {R_place : Int32} {R_at : Int32} {R_token : Int32} {R_tokenPlace : Int32} {R_number : Int32} {R_state : Int32} {R_block : Int32} {R_positive : Int32} {R_negative : Int32} {R_left : Int32} {R_right : Int32} {R_pivot : Int32} {L_of : Nat → Int32} {F_cut : Int32} {F_labelledA : Int32} {F_labelledB : Int32} {F_row : Nat → Int64} {A_root : Int32} {A_words : Nat → Int64} {A_known : Nat → Int32} {G_size : Int32} {G_variable : Nat → Int32} {G_low : Nat → Int32} {G_high : Nat → Int32} {G_numberOf : Nat → Int32} {G_nodeOf : Nat → Int32} {G_sides : Nat → Int32} {G_waiting : Nat → Int32} {B_table : Nat → Int64} {B_nextTable : Nat → Int64}  {k : Int32 → Int32 → (Nat → Int32) → (Nat → Int32) → (Nat → Int32) → (Nat → Int32) → (Nat → Int32) → (Nat → Int32) → (Nat → Int32) → Int32 → Int32 → Int32 → Int32 → Int32 → Int32 → Int32 → Int32 → Int32 → Prop} (h : p_R_takeToken C_drafted C_draftedGiven C_block C_left C_right C_pivot C_positive C_negative C_live R_kind R_place R_token R_tokenPlace R_number R_state R_block R_positive R_negative R_left R_right R_pivot k) :
    MTv l y_R_takeToken b_R_takeToken 1 none rm_R_takeToken D ca tp [.ref (ad 12)] (WB ad ca T_length T_bytes C_size C_given C_empty C_drafted C_draftedGiven C_block C_left C_right C_pivot C_positive C_negative C_live C_needed R_kind R_place R_at R_token R_tokenPlace R_number R_state R_block R_positive R_negative R_left R_right R_pivot L_of F_cut F_labelledA F_labelledB F_row A_root A_words A_known G_size G_variable G_low G_high G_numberOf G_nodeOf G_sides G_waiting B_table B_nextTable)
      (fun (u : Int32 × Int32 × (Nat → Int32) × (Nat → Int32) × (Nat → Int32) × (Nat → Int32) × (Nat → Int32) × (Nat → Int32) × (Nat → Int32) × Int32 × Int32 × Int32 × Int32 × Int32 × Int32 × Int32 × Int32 × Int32) => k u.1 u.2.1 u.2.2.1 u.2.2.2.1 u.2.2.2.2.1 u.2.2.2.2.2.1 u.2.2.2.2.2.2.1 u.2.2.2.2.2.2.2.1 u.2.2.2.2.2.2.2.2.1 u.2.2.2.2.2.2.2.2.2.1 u.2.2.2.2.2.2.2.2.2.2.1 u.2.2.2.2.2.2.2.2.2.2.2.1 u.2.2.2.2.2.2.2.2.2.2.2.2.1 u.2.2.2.2.2.2.2.2.2.2.2.2.2.1 u.2.2.2.2.2.2.2.2.2.2.2.2.2.2.1 u.2.2.2.2.2.2.2.2.2.2.2.2.2.2.2.1 u.2.2.2.2.2.2.2.2.2.2.2.2.2.2.2.2.1 u.2.2.2.2.2.2.2.2.2.2.2.2.2.2.2.2.2)
      (fun (u : Int32 × Int32 × (Nat → Int32) × (Nat → Int32) × (Nat → Int32) × (Nat → Int32) × (Nat → Int32) × (Nat → Int32) × (Nat → Int32) × Int32 × Int32 × Int32 × Int32 × Int32 × Int32 × Int32 × Int32 × Int32) => WB ad ca T_length T_bytes C_size C_given C_empty u.1 u.2.1 u.2.2.1 u.2.2.2.1 u.2.2.2.2.1 u.2.2.2.2.2.1 u.2.2.2.2.2.2.1 u.2.2.2.2.2.2.2.1 u.2.2.2.2.2.2.2.2.1 C_needed u.2.2.2.2.2.2.2.2.2.1 u.2.2.2.2.2.2.2.2.2.2.1 R_at R_token R_tokenPlace R_number u.2.2.2.2.2.2.2.2.2.2.2.1 u.2.2.2.2.2.2.2.2.2.2.2.2.1 u.2.2.2.2.2.2.2.2.2.2.2.2.2.1 u.2.2.2.2.2.2.2.2.2.2.2.2.2.2.1 u.2.2.2.2.2.2.2.2.2.2.2.2.2.2.2.1 u.2.2.2.2.2.2.2.2.2.2.2.2.2.2.2.2.1 u.2.2.2.2.2.2.2.2.2.2.2.2.2.2.2.2.2 L_of F_cut F_labelledA F_labelledB F_row A_root A_words A_known G_size G_variable G_low G_high G_numberOf G_nodeOf G_sides G_waiting B_table B_nextTable) 0 0 := by
  refine x_entryv (own := R_R) (nm := "takeToken") (by decide) rfl rfl (Nat.le_of_ble_eq_true rfl) (fun p e s m below meth c A ls C0 hw hl => ?_)
  have hx := C0.1
  have hb := C0.2.1
  have hl : lv_has ls 1 [(0, .ref (ad 12))] := hl
  unfold p_R_takeToken at h
  refine lv_aload_n hx hb d_R_takeToken_0 rfl (lv_at hl 0 rfl) ?_
  refine x_get C0 hw 12 rfl rfl i_R 8 (by decide) wm_173 rfl rfl d_R_takeToken_1 ?_
  by_cases c_1 : R_state = (0 : Int32)
  · have h := h.1 c_1
    refine lv_tableIn (tgt := 56) (off := 52) hx hb d_R_takeToken_4 (by rw [c_1]; decide) (by rw [c_1]; decide) (by rw [c_1]; rfl) (by decide) ?_
    refine lv_aload_n hx hb d_R_takeToken_56 rfl (lv_at hl 0 rfl) ?_
    refine x_callVv C0 hw hl (c_R_takeStart h) g_R_takeStart wm_382 ⟨wm_4, wm_384⟩ 12 rfl rfl rfl (As := []) (rest := []) rfl rfl (Nat.le_of_ble_eq_true rfl) ⟨rfl, rfl⟩ ⟨Nat.le_of_ble_eq_true rfl, Nat.le_of_ble_eq_true rfl⟩ ⟨Nat.le_of_ble_eq_true rfl, Nat.le_of_ble_eq_true rfl⟩ d_R_takeToken_57 (fun u H locs h hw => ?_)
    obtain ⟨R_kind_2, R_place_3, R_state_4⟩ := u
    refine lv_goto (tgt := 88) hx hb d_R_takeToken_60 (by decide) ?_
    exact x_vret C0 hw (C_drafted, C_draftedGiven, C_block, C_left, C_right, C_pivot, C_positive, C_negative, C_live, R_kind_2, R_place_3, R_state_4, R_block, R_positive, R_negative, R_left, R_right, R_pivot) h rfl d_R_takeToken_88
  by_cases c_6 : R_state = (1 : Int32)
  · have h := h.2.1 c_6
    refine lv_tableIn (tgt := 84) (off := 80) hx hb d_R_takeToken_4 (by rw [c_6]; decide) (by rw [c_6]; decide) (by rw [c_6]; rfl) (by decide) ?_
    refine lv_aload_n hx hb d_R_takeToken_84 rfl (lv_at hl 0 rfl) ?_
    refine x_callVv C0 hw hl (c_R_takeNumber h) g_R_takeNumber wm_424 ⟨wm_11, wm_426⟩ 12 rfl rfl rfl (As := []) (rest := []) rfl rfl (Nat.le_of_ble_eq_true rfl) ⟨rfl, rfl⟩ ⟨Nat.le_of_ble_eq_true rfl, Nat.le_of_ble_eq_true rfl⟩ ⟨Nat.le_of_ble_eq_true rfl, Nat.le_of_ble_eq_true rfl⟩ d_R_takeToken_85 (fun u H locs h hw => ?_)
    obtain ⟨R_kind_7, R_place_8, R_state_9, R_block_10, R_positive_11, R_negative_12, R_left_13, R_right_14, R_pivot_15⟩ := u
    exact x_vret C0 hw (C_drafted, C_draftedGiven, C_block, C_left, C_right, C_pivot, C_positive, C_negative, C_live, R_kind_7, R_place_8, R_state_9, R_block_10, R_positive_11, R_negative_12, R_left_13, R_right_14, R_pivot_15) h rfl d_R_takeToken_88
  by_cases c_17 : R_state = (2 : Int32)
  · have h := h.2.2.1 c_17
    refine lv_tableIn (tgt := 63) (off := 59) hx hb d_R_takeToken_4 (by rw [c_17]; decide) (by rw [c_17]; decide) (by rw [c_17]; rfl) (by decide) ?_
    refine lv_aload_n hx hb d_R_takeToken_63 rfl (lv_at hl 0 rfl) ?_
    refine x_callVv C0 hw hl (c_R_takeColon h) g_R_takeColon wm_407 ⟨wm_8, wm_409⟩ 12 rfl rfl rfl (As := []) (rest := []) rfl rfl (Nat.le_of_ble_eq_true rfl) ⟨rfl, rfl⟩ ⟨Nat.le_of_ble_eq_true rfl, Nat.le_of_ble_eq_true rfl⟩ ⟨Nat.le_of_ble_eq_true rfl, Nat.le_of_ble_eq_true rfl⟩ d_R_takeToken_64 (fun u H locs h hw => ?_)
    obtain ⟨R_kind_18, R_place_19, R_state_20, R_positive_21, R_negative_22⟩ := u
    refine lv_goto (tgt := 88) hx hb d_R_takeToken_67 (by decide) ?_
    exact x_vret C0 hw (C_drafted, C_draftedGiven, C_block, C_left, C_right, C_pivot, C_positive, C_negative, C_live, R_kind_18, R_place_19, R_state_20, R_block, R_positive_21, R_negative_22, R_left, R_right, R_pivot) h rfl d_R_takeToken_88
  by_cases c_24 : R_state = (3 : Int32)
  · have h := h.2.2.2.1 c_24
    refine lv_tableIn (tgt := 70) (off := 66) hx hb d_R_takeToken_4 (by rw [c_24]; decide) (by rw [c_24]; decide) (by rw [c_24]; rfl) (by decide) ?_
    refine lv_aload_n hx hb d_R_takeToken_70 rfl (lv_at hl 0 rfl) ?_
    refine x_callVv C0 hw hl (c_R_takeInsideClause h) g_R_takeInsideClause wm_411 ⟨wm_9, wm_413⟩ 12 rfl rfl rfl (As := []) (rest := []) rfl rfl (Nat.le_of_ble_eq_true rfl) ⟨rfl, rfl⟩ ⟨Nat.le_of_ble_eq_true rfl, Nat.le_of_ble_eq_true rfl⟩ ⟨Nat.le_of_ble_eq_true rfl, Nat.le_of_ble_eq_true rfl⟩ d_R_takeToken_71 (fun u H locs h hw => ?_)
    obtain ⟨C_drafted_25, C_draftedGiven_26, C_block_27, C_left_28, C_right_29, C_pivot_30, C_positive_31, C_negative_32, C_live_33, R_kind_34, R_place_35, R_state_36, R_block_37, R_positive_38, R_negative_39, R_left_40, R_right_41, R_pivot_42⟩ := u
    refine lv_goto (tgt := 88) hx hb d_R_takeToken_74 (by decide) ?_
    exact x_vret C0 hw (C_drafted_25, C_draftedGiven_26, C_block_27, C_left_28, C_right_29, C_pivot_30, C_positive_31, C_negative_32, C_live_33, R_kind_34, R_place_35, R_state_36, R_block_37, R_positive_38, R_negative_39, R_left_40, R_right_41, R_pivot_42) h rfl d_R_takeToken_88
  by_cases c_44 : R_state = (4 : Int32)
  · have h := h.2.2.2.2.1 c_44
    refine lv_tableIn (tgt := 84) (off := 80) hx hb d_R_takeToken_4 (by rw [c_44]; decide) (by rw [c_44]; decide) (by rw [c_44]; rfl) (by decide) ?_
    refine lv_aload_n hx hb d_R_takeToken_84 rfl (lv_at hl 0 rfl) ?_
    refine x_callVv C0 hw hl (c_R_takeNumber h) g_R_takeNumber wm_424 ⟨wm_11, wm_426⟩ 12 rfl rfl rfl (As := []) (rest := []) rfl rfl (Nat.le_of_ble_eq_true rfl) ⟨rfl, rfl⟩ ⟨Nat.le_of_ble_eq_true rfl, Nat.le_of_ble_eq_true rfl⟩ ⟨Nat.le_of_ble_eq_true rfl, Nat.le_of_ble_eq_true rfl⟩ d_R_takeToken_85 (fun u H locs h hw => ?_)
    obtain ⟨R_kind_45, R_place_46, R_state_47, R_block_48, R_positive_49, R_negative_50, R_left_51, R_right_52, R_pivot_53⟩ := u
    exact x_vret C0 hw (C_drafted, C_draftedGiven, C_block, C_left, C_right, C_pivot, C_positive, C_negative, C_live, R_kind_45, R_place_46, R_state_47, R_block_48, R_positive_49, R_negative_50, R_left_51, R_right_52, R_pivot_53) h rfl d_R_takeToken_88
  by_cases c_55 : R_state = (5 : Int32)
  · have h := h.2.2.2.2.2.1 c_55
    refine lv_tableIn (tgt := 84) (off := 80) hx hb d_R_takeToken_4 (by rw [c_55]; decide) (by rw [c_55]; decide) (by rw [c_55]; rfl) (by decide) ?_
    refine lv_aload_n hx hb d_R_takeToken_84 rfl (lv_at hl 0 rfl) ?_
    refine x_callVv C0 hw hl (c_R_takeNumber h) g_R_takeNumber wm_424 ⟨wm_11, wm_426⟩ 12 rfl rfl rfl (As := []) (rest := []) rfl rfl (Nat.le_of_ble_eq_true rfl) ⟨rfl, rfl⟩ ⟨Nat.le_of_ble_eq_true rfl, Nat.le_of_ble_eq_true rfl⟩ ⟨Nat.le_of_ble_eq_true rfl, Nat.le_of_ble_eq_true rfl⟩ d_R_takeToken_85 (fun u H locs h hw => ?_)
    obtain ⟨R_kind_56, R_place_57, R_state_58, R_block_59, R_positive_60, R_negative_61, R_left_62, R_right_63, R_pivot_64⟩ := u
    exact x_vret C0 hw (C_drafted, C_draftedGiven, C_block, C_left, C_right, C_pivot, C_positive, C_negative, C_live, R_kind_56, R_place_57, R_state_58, R_block_59, R_positive_60, R_negative_61, R_left_62, R_right_63, R_pivot_64) h rfl d_R_takeToken_88
  by_cases c_66 : R_state = (6 : Int32)
  · have h := h.2.2.2.2.2.2.1 c_66
    refine lv_tableIn (tgt := 84) (off := 80) hx hb d_R_takeToken_4 (by rw [c_66]; decide) (by rw [c_66]; decide) (by rw [c_66]; rfl) (by decide) ?_
    refine lv_aload_n hx hb d_R_takeToken_84 rfl (lv_at hl 0 rfl) ?_
    refine x_callVv C0 hw hl (c_R_takeNumber h) g_R_takeNumber wm_424 ⟨wm_11, wm_426⟩ 12 rfl rfl rfl (As := []) (rest := []) rfl rfl (Nat.le_of_ble_eq_true rfl) ⟨rfl, rfl⟩ ⟨Nat.le_of_ble_eq_true rfl, Nat.le_of_ble_eq_true rfl⟩ ⟨Nat.le_of_ble_eq_true rfl, Nat.le_of_ble_eq_true rfl⟩ d_R_takeToken_85 (fun u H locs h hw => ?_)
    obtain ⟨R_kind_67, R_place_68, R_state_69, R_block_70, R_positive_71, R_negative_72, R_left_73, R_right_74, R_pivot_75⟩ := u
    exact x_vret C0 hw (C_drafted, C_draftedGiven, C_block, C_left, C_right, C_pivot, C_positive, C_negative, C_live, R_kind_67, R_place_68, R_state_69, R_block_70, R_positive_71, R_negative_72, R_left_73, R_right_74, R_pivot_75) h rfl d_R_takeToken_88
  by_cases c_77 : R_state = (7 : Int32)
  · have h := h.2.2.2.2.2.2.2.1 c_77
    refine lv_tableIn (tgt := 84) (off := 80) hx hb d_R_takeToken_4 (by rw [c_77]; decide) (by rw [c_77]; decide) (by rw [c_77]; rfl) (by decide) ?_
    refine lv_aload_n hx hb d_R_takeToken_84 rfl (lv_at hl 0 rfl) ?_
    refine x_callVv C0 hw hl (c_R_takeNumber h) g_R_takeNumber wm_424 ⟨wm_11, wm_426⟩ 12 rfl rfl rfl (As := []) (rest := []) rfl rfl (Nat.le_of_ble_eq_true rfl) ⟨rfl, rfl⟩ ⟨Nat.le_of_ble_eq_true rfl, Nat.le_of_ble_eq_true rfl⟩ ⟨Nat.le_of_ble_eq_true rfl, Nat.le_of_ble_eq_true rfl⟩ d_R_takeToken_85 (fun u H locs h hw => ?_)
    obtain ⟨R_kind_78, R_place_79, R_state_80, R_block_81, R_positive_82, R_negative_83, R_left_84, R_right_85, R_pivot_86⟩ := u
    exact x_vret C0 hw (C_drafted, C_draftedGiven, C_block, C_left, C_right, C_pivot, C_positive, C_negative, C_live, R_kind_78, R_place_79, R_state_80, R_block_81, R_positive_82, R_negative_83, R_left_84, R_right_85, R_pivot_86) h rfl d_R_takeToken_88
  by_cases c_88 : R_state = (8 : Int32)
  · have h := h.2.2.2.2.2.2.2.2.1 c_88
    refine lv_tableIn (tgt := 77) (off := 73) hx hb d_R_takeToken_4 (by rw [c_88]; decide) (by rw [c_88]; decide) (by rw [c_88]; rfl) (by decide) ?_
    refine lv_aload_n hx hb d_R_takeToken_77 rfl (lv_at hl 0 rfl) ?_
    refine x_callVv C0 hw hl (c_R_takeClose h) g_R_takeClose wm_475 ⟨wm_19, wm_477⟩ 12 rfl rfl rfl (As := []) (rest := []) rfl rfl (Nat.le_of_ble_eq_true rfl) ⟨rfl, rfl⟩ ⟨Nat.le_of_ble_eq_true rfl, Nat.le_of_ble_eq_true rfl⟩ ⟨Nat.le_of_ble_eq_true rfl, Nat.le_of_ble_eq_true rfl⟩ d_R_takeToken_78 (fun u H locs h hw => ?_)
    obtain ⟨C_drafted_89, C_block_90, C_left_91, C_right_92, C_pivot_93, C_positive_94, C_negative_95, C_live_96, R_kind_97, R_place_98, R_state_99⟩ := u
    refine lv_goto (tgt := 88) hx hb d_R_takeToken_81 (by decide) ?_
    exact x_vret C0 hw (C_drafted_89, C_draftedGiven, C_block_90, C_left_91, C_right_92, C_pivot_93, C_positive_94, C_negative_95, C_live_96, R_kind_97, R_place_98, R_state_99, R_block, R_positive, R_negative, R_left, R_right, R_pivot) h rfl d_R_takeToken_88
  have h := h.2.2.2.2.2.2.2.2.2 c_1 c_6 c_17 c_24 c_44 c_55 c_66 c_77 c_88
  refine lv_tableOut (tgt := 84) hx hb d_R_takeToken_4 (by have q0 := lv_neT c_1 (a := 0) rfl; have q1 := lv_neT c_6 (a := 1) rfl; have q2 := lv_neT c_17 (a := 2) rfl; have q3 := lv_neT c_24 (a := 3) rfl; have q4 := lv_neT c_44 (a := 4) rfl; have q5 := lv_neT c_55 (a := 5) rfl; have q6 := lv_neT c_66 (a := 6) rfl; have q7 := lv_neT c_77 (a := 7) rfl; have q8 := lv_neT c_88 (a := 8) rfl; omega) (by decide) ?_
  refine lv_aload_n hx hb d_R_takeToken_84 rfl (lv_at hl 0 rfl) ?_
  refine x_callVv C0 hw hl (c_R_takeNumber h) g_R_takeNumber wm_424 ⟨wm_11, wm_426⟩ 12 rfl rfl rfl (As := []) (rest := []) rfl rfl (Nat.le_of_ble_eq_true rfl) ⟨rfl, rfl⟩ ⟨Nat.le_of_ble_eq_true rfl, Nat.le_of_ble_eq_true rfl⟩ ⟨Nat.le_of_ble_eq_true rfl, Nat.le_of_ble_eq_true rfl⟩ d_R_takeToken_85 (fun u H locs h hw => ?_)
  obtain ⟨R_kind_101, R_place_102, R_state_103, R_block_104, R_positive_105, R_negative_106, R_left_107, R_right_108, R_pivot_109⟩ := u
  exact x_vret C0 hw (C_drafted, C_draftedGiven, C_block, C_left, C_right, C_pivot, C_positive, C_negative, C_live, R_kind_101, R_place_102, R_state_103, R_block_104, R_positive_105, R_negative_106, R_left_107, R_right_108, R_pivot_109) h rfl d_R_takeToken_88
theorem g_R_readText : GY y_R_readText b_R_readText 2 none 0 := ⟨wm_348, wm_56, by decide +kernel, by decide +kernel, by decide +kernel⟩
def p_R_readText_L35 (T_length : Int32) (T_bytes : Nat → Int32) (k : Int32 → Int32 → (Nat → Int32) → (Nat → Int32) → (Nat → Int32) → (Nat → Int32) → (Nat → Int32) → (Nat → Int32) → (Nat → Int32) → Int32 → Int32 → Int32 → Int32 → Int32 → Int32 → Int32 → Int32 → Int32 → Int32 → Int32 → Int32 → Int32 → Prop) : Nat → Int32 → Int32 → Int32 → (Nat → Int32) → (Nat → Int32) → (Nat → Int32) → (Nat → Int32) → (Nat → Int32) → (Nat → Int32) → (Nat → Int32) → Int32 → Int32 → Int32 → Int32 → Int32 → Int32 → Int32 → Int32 → Int32 → Int32 → Int32 → Int32 → Int32 → Prop
  | 0, _, _, _, _, _, _, _, _, _, _, _, _, _, _, _, _, _, _, _, _, _, _, _ => False
  | n + 1, x1, C_drafted, C_draftedGiven, C_block, C_left, C_right, C_pivot, C_positive, C_negative, C_live, R_kind, R_place, R_at, R_token, R_tokenPlace, R_number, R_state, R_block, R_positive, R_negative, R_left, R_right, R_pivot =>
    (((2000 : Int32) < x1 → (k C_drafted C_draftedGiven C_block C_left C_right C_pivot C_positive C_negative C_live R_kind R_place R_at R_token R_tokenPlace R_number R_state R_block R_positive R_negative R_left R_right R_pivot)) ∧ (¬ (2000 : Int32) < x1 → ((¬ R_kind = 0 → (k C_drafted C_draftedGiven C_block C_left C_right C_pivot C_positive C_negative C_live R_kind R_place R_at R_token R_tokenPlace R_number R_state R_block R_positive R_negative R_left R_right R_pivot)) ∧ (R_kind = 0 → ((R_token = (-1 : Int32) → (k C_drafted C_draftedGiven C_block C_left C_right C_pivot C_positive C_negative C_live R_kind R_place R_at R_token R_tokenPlace R_number R_state R_block R_positive R_negative R_left R_right R_pivot)) ∧ (¬ R_token = (-1 : Int32) → (p_R_nextToken T_length T_bytes R_at R_number (fun (R_at_7 : Int32) (R_token_8 : Int32) (R_tokenPlace_9 : Int32) (R_number_10 : Int32) => (p_R_takeToken C_drafted C_draftedGiven C_block C_left C_right C_pivot C_positive C_negative C_live R_kind R_place R_token_8 R_tokenPlace_9 R_number_10 R_state R_block R_positive R_negative R_left R_right R_pivot (fun (C_drafted_12 : Int32) (C_draftedGiven_13 : Int32) (C_block_14 : Nat → Int32) (C_left_15 : Nat → Int32) (C_right_16 : Nat → Int32) (C_pivot_17 : Nat → Int32) (C_positive_18 : Nat → Int32) (C_negative_19 : Nat → Int32) (C_live_20 : Nat → Int32) (R_kind_21 : Int32) (R_place_22 : Int32) (R_state_23 : Int32) (R_block_24 : Int32) (R_positive_25 : Int32) (R_negative_26 : Int32) (R_left_27 : Int32) (R_right_28 : Int32) (R_pivot_29 : Int32) => (p_R_readText_L35 T_length T_bytes k n (x1 + 1) C_drafted_12 C_draftedGiven_13 C_block_14 C_left_15 C_right_16 C_pivot_17 C_positive_18 C_negative_19 C_live_20 R_kind_21 R_place_22 R_at_7 R_token_8 R_tokenPlace_9 R_number_10 R_state_23 R_block_24 R_positive_25 R_negative_26 R_left_27 R_right_28 R_pivot_29)))))))))))
def p_R_readText (T_length : Int32) (T_bytes : Nat → Int32) (C_size : Int32) (C_given : Int32) (C_block : Nat → Int32) (C_left : Nat → Int32) (C_right : Nat → Int32) (C_pivot : Nat → Int32) (C_positive : Nat → Int32) (C_negative : Nat → Int32) (C_live : Nat → Int32) (R_tokenPlace : Int32) (R_number : Int32) (R_block : Int32) (R_positive : Int32) (R_negative : Int32) (R_left : Int32) (R_right : Int32) (R_pivot : Int32) (k : Int32 → Int32 → (Nat → Int32) → (Nat → Int32) → (Nat → Int32) → (Nat → Int32) → (Nat → Int32) → (Nat → Int32) → (Nat → Int32) → Int32 → Int32 → Int32 → Int32 → Int32 → Int32 → Int32 → Int32 → Int32 → Int32 → Int32 → Int32 → Int32 → Prop) : Prop :=
  (p_C_startDraft C_size C_given (fun (C_drafted_1 : Int32) (C_draftedGiven_2 : Int32) => (∃ j_31, p_R_readText_L35 T_length T_bytes k j_31 (0 : Int32) C_drafted_1 C_draftedGiven_2 C_block C_left C_right C_pivot C_positive C_negative C_live (0 : Int32) (-1 : Int32) (0 : Int32) (-3 : Int32) R_tokenPlace R_number (0 : Int32) R_block R_positive R_negative R_left R_right R_pivot)))
abbrev rm_R_readText : Room := { frames := 7, cells := 0, slots := 0, locals := 146 }
set_option maxHeartbeats 4000000 in
set_option maxRecDepth 100000 in
theorem b_R_readText_L35 {p : Program} {l : Launch} {e : Env} {s : State} {m : MethodId} {args : Array Value} {below : List Frame} {meth : Method} {c : Code} {D : va_G} {ca : Nat → ClassId} {tp : Nat} {A : Nat → Prop} {ad : Nat → Nat} {T_length : Int32} {T_bytes : Nat → Int32} {C_size : Int32} {C_given : Int32} {C_empty : Int32} {C_needed : Nat → Int32} {L_of : Nat → Int32} {F_cut : Int32} {F_labelledA : Int32} {F_labelledB : Int32} {F_row : Nat → Int64} {A_root : Int32} {A_words : Nat → Int64} {A_known : Nat → Int32} {G_size : Int32} {G_variable : Nat → Int32} {G_low : Nat → Int32} {G_high : Nat → Int32} {G_numberOf : Nat → Int32} {G_nodeOf : Nat → Int32} {G_sides : Nat → Int32} {G_waiting : Nat → Int32} {B_table : Nat → Int64} {B_nextTable : Nat → Int64}  {k : Int32 → Int32 → (Nat → Int32) → (Nat → Int32) → (Nat → Int32) → (Nat → Int32) → (Nat → Int32) → (Nat → Int32) → (Nat → Int32) → Int32 → Int32 → Int32 → Int32 → Int32 → Int32 → Int32 → Int32 → Int32 → Int32 → Int32 → Int32 → Int32 → Prop}  (C0 : CX p s m args meth c b_R_readText 2 none R_R "readText" D ca tp A) :
    ∀ (n : Nat) (x1 : Int32) (C_drafted : Int32) (C_draftedGiven : Int32) (C_block : Nat → Int32) (C_left : Nat → Int32) (C_right : Nat → Int32) (C_pivot : Nat → Int32) (C_positive : Nat → Int32) (C_negative : Nat → Int32) (C_live : Nat → Int32) (R_kind : Int32) (R_place : Int32) (R_at : Int32) (R_token : Int32) (R_tokenPlace : Int32) (R_number : Int32) (R_state : Int32) (R_block : Int32) (R_positive : Int32) (R_negative : Int32) (R_left : Int32) (R_right : Int32) (R_pivot : Int32) {H : Heap} {locs : List Loc} {ls : Array Slot}, p_R_readText_L35 T_length T_bytes k n x1 C_drafted C_draftedGiven C_block C_left C_right C_pivot C_positive C_negative C_live R_kind R_place R_at R_token R_tokenPlace R_number R_state R_block R_positive R_negative R_left R_right R_pivot → WH D A s (WB ad ca T_length T_bytes C_size C_given C_empty C_drafted C_draftedGiven C_block C_left C_right C_pivot C_positive C_negative C_live C_needed R_kind R_place R_at R_token R_tokenPlace R_number R_state R_block R_positive R_negative R_left R_right R_pivot L_of F_cut F_labelledA F_labelledB F_row A_root A_words A_known G_size G_variable G_low G_high G_numberOf G_nodeOf G_sides G_waiting B_table B_nextTable) H locs → lv_has ls 2 [(0, .ref (ad 12)), (1, .int x1)] →
      W p l e rm_R_readText s m args below meth c H locs 0 0 (QV D A below args s (fun (u : Int32 × Int32 × (Nat → Int32) × (Nat → Int32) × (Nat → Int32) × (Nat → Int32) × (Nat → Int32) × (Nat → Int32) × (Nat → Int32) × Int32 × Int32 × Int32 × Int32 × Int32 × Int32 × Int32 × Int32 × Int32 × Int32 × Int32 × Int32 × Int32) => k u.1 u.2.1 u.2.2.1 u.2.2.2.1 u.2.2.2.2.1 u.2.2.2.2.2.1 u.2.2.2.2.2.2.1 u.2.2.2.2.2.2.2.1 u.2.2.2.2.2.2.2.2.1 u.2.2.2.2.2.2.2.2.2.1 u.2.2.2.2.2.2.2.2.2.2.1 u.2.2.2.2.2.2.2.2.2.2.2.1 u.2.2.2.2.2.2.2.2.2.2.2.2.1 u.2.2.2.2.2.2.2.2.2.2.2.2.2.1 u.2.2.2.2.2.2.2.2.2.2.2.2.2.2.1 u.2.2.2.2.2.2.2.2.2.2.2.2.2.2.2.1 u.2.2.2.2.2.2.2.2.2.2.2.2.2.2.2.2.1 u.2.2.2.2.2.2.2.2.2.2.2.2.2.2.2.2.2.1 u.2.2.2.2.2.2.2.2.2.2.2.2.2.2.2.2.2.2.1 u.2.2.2.2.2.2.2.2.2.2.2.2.2.2.2.2.2.2.2.1 u.2.2.2.2.2.2.2.2.2.2.2.2.2.2.2.2.2.2.2.2.1 u.2.2.2.2.2.2.2.2.2.2.2.2.2.2.2.2.2.2.2.2.2) (fun (u : Int32 × Int32 × (Nat → Int32) × (Nat → Int32) × (Nat → Int32) × (Nat → Int32) × (Nat → Int32) × (Nat → Int32) × (Nat → Int32) × Int32 × Int32 × Int32 × Int32 × Int32 × Int32 × Int32 × Int32 × Int32 × Int32 × Int32 × Int32 × Int32) => WB ad ca T_length T_bytes C_size C_given C_empty u.1 u.2.1 u.2.2.1 u.2.2.2.1 u.2.2.2.2.1 u.2.2.2.2.2.1 u.2.2.2.2.2.2.1 u.2.2.2.2.2.2.2.1 u.2.2.2.2.2.2.2.2.1 C_needed u.2.2.2.2.2.2.2.2.2.1 u.2.2.2.2.2.2.2.2.2.2.1 u.2.2.2.2.2.2.2.2.2.2.2.1 u.2.2.2.2.2.2.2.2.2.2.2.2.1 u.2.2.2.2.2.2.2.2.2.2.2.2.2.1 u.2.2.2.2.2.2.2.2.2.2.2.2.2.2.1 u.2.2.2.2.2.2.2.2.2.2.2.2.2.2.2.1 u.2.2.2.2.2.2.2.2.2.2.2.2.2.2.2.2.1 u.2.2.2.2.2.2.2.2.2.2.2.2.2.2.2.2.2.1 u.2.2.2.2.2.2.2.2.2.2.2.2.2.2.2.2.2.2.1 u.2.2.2.2.2.2.2.2.2.2.2.2.2.2.2.2.2.2.2.1 u.2.2.2.2.2.2.2.2.2.2.2.2.2.2.2.2.2.2.2.2.1 u.2.2.2.2.2.2.2.2.2.2.2.2.2.2.2.2.2.2.2.2.2 L_of F_cut F_labelledA F_labelledB F_row A_root A_words A_known G_size G_variable G_low G_high G_numberOf G_nodeOf G_sides G_waiting B_table B_nextTable) 0 0) (F0 m 35 ls []) := by
  have hx := C0.1
  have hb := C0.2.1
  intro n
  induction n with
  | zero =>
    intro x1 C_drafted C_draftedGiven C_block C_left C_right C_pivot C_positive C_negative C_live R_kind R_place R_at R_token R_tokenPlace R_number R_state R_block R_positive R_negative R_left R_right R_pivot H locs ls h
    exact False.elim h
  | succ n ih =>
    intro x1 C_drafted C_draftedGiven C_block C_left C_right C_pivot C_positive C_negative C_live R_kind R_place R_at R_token R_tokenPlace R_number R_state R_block R_positive R_negative R_left R_right R_pivot H locs ls h hw hl
    unfold p_R_readText_L35 at h
    refine lv_iload_n hx hb d_R_readText_35 rfl (lv_at hl 1 rfl) ?_
    refine lv_sipush (v := 2000) hx hb d_R_readText_36 (by decide) ?_
    refine lv_icmp_gt (tgt := 71) hx hb d_R_readText_39 (by decide) (fun c_4 => ?_) (fun c_4 => ?_)
    · have h := h.1 c_4
      exact x_vret C0 hw (C_drafted, C_draftedGiven, C_block, C_left, C_right, C_pivot, C_positive, C_negative, C_live, R_kind, R_place, R_at, R_token, R_tokenPlace, R_number, R_state, R_block, R_positive, R_negative, R_left, R_right, R_pivot) h rfl d_R_readText_71
    · have h := h.2 c_4
      refine lv_aload_n hx hb d_R_readText_42 rfl (lv_at hl 0 rfl) ?_
      refine x_get C0 hw 12 rfl rfl i_R 2 (by decide) wm_165 rfl rfl d_R_readText_43 ?_
      refine lv_if_ne (tgt := 71) hx hb d_R_readText_46 (by decide) (fun c_5 => ?_) (fun c_5 => ?_)
      · have h := h.1 c_5
        exact x_vret C0 hw (C_drafted, C_draftedGiven, C_block, C_left, C_right, C_pivot, C_positive, C_negative, C_live, R_kind, R_place, R_at, R_token, R_tokenPlace, R_number, R_state, R_block, R_positive, R_negative, R_left, R_right, R_pivot) h rfl d_R_readText_71
      · have h := h.2 c_5
        refine lv_aload_n hx hb d_R_readText_49 rfl (lv_at hl 0 rfl) ?_
        refine x_get C0 hw 12 rfl rfl i_R 5 (by decide) wm_170 rfl rfl d_R_readText_50 ?_
        refine lv_iconst (v := -1) hx hb d_R_readText_53 (by decide) ?_
        refine lv_icmp_eq (tgt := 71) hx hb d_R_readText_54 (by decide) (fun c_6 => ?_) (fun c_6 => ?_)
        · have h := h.1 c_6
          exact x_vret C0 hw (C_drafted, C_draftedGiven, C_block, C_left, C_right, C_pivot, C_positive, C_negative, C_live, R_kind, R_place, R_at, R_token, R_tokenPlace, R_number, R_state, R_block, R_positive, R_negative, R_left, R_right, R_pivot) h rfl d_R_readText_71
        · have h := h.2 c_6
          refine lv_aload_n hx hb d_R_readText_57 rfl (lv_at hl 0 rfl) ?_
          refine x_callVv C0 hw hl (c_R_nextToken h) g_R_nextToken wm_353 ⟨wm_0, wm_355⟩ 12 rfl rfl rfl (As := []) (rest := []) rfl rfl (Nat.le_of_ble_eq_true rfl) ⟨rfl, rfl⟩ ⟨Nat.le_of_ble_eq_true rfl, Nat.le_of_ble_eq_true rfl⟩ ⟨Nat.le_of_ble_eq_true rfl, Nat.le_of_ble_eq_true rfl⟩ d_R_readText_58 (fun u H locs h hw => ?_)
          obtain ⟨R_at_7, R_token_8, R_tokenPlace_9, R_number_10⟩ := u
          refine lv_aload_n hx hb d_R_readText_61 rfl (lv_at hl 0 rfl) ?_
          refine x_callVv C0 hw hl (c_R_takeToken h) g_R_takeToken wm_378 ⟨wm_3, wm_380⟩ 12 rfl rfl rfl (As := []) (rest := []) rfl rfl (Nat.le_of_ble_eq_true rfl) ⟨rfl, rfl⟩ ⟨Nat.le_of_ble_eq_true rfl, Nat.le_of_ble_eq_true rfl⟩ ⟨Nat.le_of_ble_eq_true rfl, Nat.le_of_ble_eq_true rfl⟩ d_R_readText_62 (fun u H locs h hw => ?_)
          obtain ⟨C_drafted_12, C_draftedGiven_13, C_block_14, C_left_15, C_right_16, C_pivot_17, C_positive_18, C_negative_19, C_live_20, R_kind_21, R_place_22, R_state_23, R_block_24, R_positive_25, R_negative_26, R_left_27, R_right_28, R_pivot_29⟩ := u
          refine lv_iinc (v := (x1 + 1)) (lv' := [(1, .int (x1 + 1)), (0, .ref (ad 12))]) hx hb d_R_readText_65 hl (k := 1) rfl rfl (by decide) rfl (fun ls hl => ?_)
          refine lv_goto (tgt := 35) hx hb d_R_readText_68 (by decide) ?_
          exact ih _ _ _ _ _ _ _ _ _ _ _ _ _ _ _ _ _ _ _ _ _ _ _ h hw (lv_sub hl [1, 0] rfl)
set_option maxHeartbeats 4000000 in
set_option maxRecDepth 100000 in
theorem c_R_readText {l : Launch} {D : va_G} {ca : Nat → ClassId} {tp : Nat} {ad : Nat → Nat} {T_length : Int32} {T_bytes : Nat → Int32} {C_size : Int32} {C_given : Int32} {C_empty : Int32} {C_drafted : Int32} {C_draftedGiven : Int32} {C_block : Nat → Int32} {C_left : Nat → Int32} {C_right : Nat → Int32} {C_pivot : Nat → Int32} {C_positive : Nat → Int32} {C_negative : Nat → Int32} {C_live : Nat → Int32} {C_needed : Nat → Int32} {R_kind : Int32} {R_place : Int32} {R_at : Int32} {R_token : Int32} {R_tokenPlace : Int32} {R_number : Int32} {R_state : Int32} {R_block : Int32} {R_positive : Int32} {R_negative : Int32} {R_left : Int32} {R_right : Int32} {R_pivot : Int32} {L_of : Nat → Int32} {F_cut : Int32} {F_labelledA : Int32} {F_labelledB : Int32} {F_row : Nat → Int64} {A_root : Int32} {A_words : Nat → Int64} {A_known : Nat → Int32} {G_size : Int32} {G_variable : Nat → Int32} {G_low : Nat → Int32} {G_high : Nat → Int32} {G_numberOf : Nat → Int32} {G_nodeOf : Nat → Int32} {G_sides : Nat → Int32} {G_waiting : Nat → Int32} {B_table : Nat → Int64} {B_nextTable : Nat → Int64}  {k : Int32 → Int32 → (Nat → Int32) → (Nat → Int32) → (Nat → Int32) → (Nat → Int32) → (Nat → Int32) → (Nat → Int32) → (Nat → Int32) → Int32 → Int32 → Int32 → Int32 → Int32 → Int32 → Int32 → Int32 → Int32 → Int32 → Int32 → Int32 → Int32 → Prop} (h : p_R_readText T_length T_bytes C_size C_given C_block C_left C_right C_pivot C_positive C_negative C_live R_tokenPlace R_number R_block R_positive R_negative R_left R_right R_pivot k) :
    MTv l y_R_readText b_R_readText 2 none rm_R_readText D ca tp [.ref (ad 12)] (WB ad ca T_length T_bytes C_size C_given C_empty C_drafted C_draftedGiven C_block C_left C_right C_pivot C_positive C_negative C_live C_needed R_kind R_place R_at R_token R_tokenPlace R_number R_state R_block R_positive R_negative R_left R_right R_pivot L_of F_cut F_labelledA F_labelledB F_row A_root A_words A_known G_size G_variable G_low G_high G_numberOf G_nodeOf G_sides G_waiting B_table B_nextTable)
      (fun (u : Int32 × Int32 × (Nat → Int32) × (Nat → Int32) × (Nat → Int32) × (Nat → Int32) × (Nat → Int32) × (Nat → Int32) × (Nat → Int32) × Int32 × Int32 × Int32 × Int32 × Int32 × Int32 × Int32 × Int32 × Int32 × Int32 × Int32 × Int32 × Int32) => k u.1 u.2.1 u.2.2.1 u.2.2.2.1 u.2.2.2.2.1 u.2.2.2.2.2.1 u.2.2.2.2.2.2.1 u.2.2.2.2.2.2.2.1 u.2.2.2.2.2.2.2.2.1 u.2.2.2.2.2.2.2.2.2.1 u.2.2.2.2.2.2.2.2.2.2.1 u.2.2.2.2.2.2.2.2.2.2.2.1 u.2.2.2.2.2.2.2.2.2.2.2.2.1 u.2.2.2.2.2.2.2.2.2.2.2.2.2.1 u.2.2.2.2.2.2.2.2.2.2.2.2.2.2.1 u.2.2.2.2.2.2.2.2.2.2.2.2.2.2.2.1 u.2.2.2.2.2.2.2.2.2.2.2.2.2.2.2.2.1 u.2.2.2.2.2.2.2.2.2.2.2.2.2.2.2.2.2.1 u.2.2.2.2.2.2.2.2.2.2.2.2.2.2.2.2.2.2.1 u.2.2.2.2.2.2.2.2.2.2.2.2.2.2.2.2.2.2.2.1 u.2.2.2.2.2.2.2.2.2.2.2.2.2.2.2.2.2.2.2.2.1 u.2.2.2.2.2.2.2.2.2.2.2.2.2.2.2.2.2.2.2.2.2)
      (fun (u : Int32 × Int32 × (Nat → Int32) × (Nat → Int32) × (Nat → Int32) × (Nat → Int32) × (Nat → Int32) × (Nat → Int32) × (Nat → Int32) × Int32 × Int32 × Int32 × Int32 × Int32 × Int32 × Int32 × Int32 × Int32 × Int32 × Int32 × Int32 × Int32) => WB ad ca T_length T_bytes C_size C_given C_empty u.1 u.2.1 u.2.2.1 u.2.2.2.1 u.2.2.2.2.1 u.2.2.2.2.2.1 u.2.2.2.2.2.2.1 u.2.2.2.2.2.2.2.1 u.2.2.2.2.2.2.2.2.1 C_needed u.2.2.2.2.2.2.2.2.2.1 u.2.2.2.2.2.2.2.2.2.2.1 u.2.2.2.2.2.2.2.2.2.2.2.1 u.2.2.2.2.2.2.2.2.2.2.2.2.1 u.2.2.2.2.2.2.2.2.2.2.2.2.2.1 u.2.2.2.2.2.2.2.2.2.2.2.2.2.2.1 u.2.2.2.2.2.2.2.2.2.2.2.2.2.2.2.1 u.2.2.2.2.2.2.2.2.2.2.2.2.2.2.2.2.1 u.2.2.2.2.2.2.2.2.2.2.2.2.2.2.2.2.2.1 u.2.2.2.2.2.2.2.2.2.2.2.2.2.2.2.2.2.2.1 u.2.2.2.2.2.2.2.2.2.2.2.2.2.2.2.2.2.2.2.1 u.2.2.2.2.2.2.2.2.2.2.2.2.2.2.2.2.2.2.2.2.1 u.2.2.2.2.2.2.2.2.2.2.2.2.2.2.2.2.2.2.2.2.2 L_of F_cut F_labelledA F_labelledB F_row A_root A_words A_known G_size G_variable G_low G_high G_numberOf G_nodeOf G_sides G_waiting B_table B_nextTable) 0 0 := by
  refine x_entryv (own := R_R) (nm := "readText") (by decide) rfl rfl (Nat.le_of_ble_eq_true rfl) (fun p e s m below meth c A ls C0 hw hl => ?_)
  have hx := C0.1
  have hb := C0.2.1
  have hl : lv_has ls 2 [(0, .ref (ad 12))] := hl
  unfold p_R_readText at h
  refine lv_aload_n hx hb d_R_readText_0 rfl (lv_at hl 0 rfl) ?_
  refine x_get C0 hw 12 rfl rfl i_R 1 (by decide) wm_164 rfl rfl d_R_readText_1 ?_
  refine x_callVv C0 hw hl (c_C_startDraft h) g_C_startDraft wm_349 ⟨wm_351, wm_350⟩ 3 rfl rfl rfl (As := []) (rest := []) rfl rfl (Nat.le_of_ble_eq_true rfl) ⟨rfl, rfl⟩ ⟨Nat.le_of_ble_eq_true rfl, Nat.le_of_ble_eq_true rfl⟩ ⟨Nat.le_of_ble_eq_true rfl, Nat.le_of_ble_eq_true rfl⟩ d_R_readText_4 (fun u H locs h hw => ?_)
  obtain ⟨C_drafted_1, C_draftedGiven_2⟩ := u
  refine lv_aload_n hx hb d_R_readText_7 rfl (lv_at hl 0 rfl) ?_
  refine lv_iconst (v := 0) hx hb d_R_readText_8 (by decide) ?_
  refine x_put C0 hw 12 rfl rfl i_R tk_R n_R 2 (by decide) wm_165 rfl rfl rfl rfl (Nat.le_of_ble_eq_true rfl) (ws' := WB ad ca T_length T_bytes C_size C_given C_empty C_drafted_1 C_draftedGiven_2 C_block C_left C_right C_pivot C_positive C_negative C_live C_needed (0 : Int32) R_place R_at R_token R_tokenPlace R_number R_state R_block R_positive R_negative R_left R_right R_pivot L_of F_cut F_labelledA F_labelledB F_row A_root A_words A_known G_size G_variable G_low G_high G_numberOf G_nodeOf G_sides G_waiting B_table B_nextTable) rfl d_R_readText_9 (fun H locs hw => ?_)
  refine lv_aload_n hx hb d_R_readText_12 rfl (lv_at hl 0 rfl) ?_
  refine lv_iconst (v := -1) hx hb d_R_readText_13 (by decide) ?_
  refine x_put C0 hw 12 rfl rfl i_R tk_R n_R 3 (by decide) wm_167 rfl rfl rfl rfl (Nat.le_of_ble_eq_true rfl) (ws' := WB ad ca T_length T_bytes C_size C_given C_empty C_drafted_1 C_draftedGiven_2 C_block C_left C_right C_pivot C_positive C_negative C_live C_needed (0 : Int32) (-1 : Int32) R_at R_token R_tokenPlace R_number R_state R_block R_positive R_negative R_left R_right R_pivot L_of F_cut F_labelledA F_labelledB F_row A_root A_words A_known G_size G_variable G_low G_high G_numberOf G_nodeOf G_sides G_waiting B_table B_nextTable) rfl d_R_readText_14 (fun H locs hw => ?_)
  refine lv_aload_n hx hb d_R_readText_17 rfl (lv_at hl 0 rfl) ?_
  refine lv_iconst (v := 0) hx hb d_R_readText_18 (by decide) ?_
  refine x_put C0 hw 12 rfl rfl i_R tk_R n_R 4 (by decide) wm_169 rfl rfl rfl rfl (Nat.le_of_ble_eq_true rfl) (ws' := WB ad ca T_length T_bytes C_size C_given C_empty C_drafted_1 C_draftedGiven_2 C_block C_left C_right C_pivot C_positive C_negative C_live C_needed (0 : Int32) (-1 : Int32) (0 : Int32) R_token R_tokenPlace R_number R_state R_block R_positive R_negative R_left R_right R_pivot L_of F_cut F_labelledA F_labelledB F_row A_root A_words A_known G_size G_variable G_low G_high G_numberOf G_nodeOf G_sides G_waiting B_table B_nextTable) rfl d_R_readText_19 (fun H locs hw => ?_)
  refine lv_aload_n hx hb d_R_readText_22 rfl (lv_at hl 0 rfl) ?_
  refine lv_iconst (v := 0) hx hb d_R_readText_23 (by decide) ?_
  refine x_put C0 hw 12 rfl rfl i_R tk_R n_R 8 (by decide) wm_173 rfl rfl rfl rfl (Nat.le_of_ble_eq_true rfl) (ws' := WB ad ca T_length T_bytes C_size C_given C_empty C_drafted_1 C_draftedGiven_2 C_block C_left C_right C_pivot C_positive C_negative C_live C_needed (0 : Int32) (-1 : Int32) (0 : Int32) R_token R_tokenPlace R_number (0 : Int32) R_block R_positive R_negative R_left R_right R_pivot L_of F_cut F_labelledA F_labelledB F_row A_root A_words A_known G_size G_variable G_low G_high G_numberOf G_nodeOf G_sides G_waiting B_table B_nextTable) rfl d_R_readText_24 (fun H locs hw => ?_)
  refine lv_aload_n hx hb d_R_readText_27 rfl (lv_at hl 0 rfl) ?_
  refine lv_bipush (v := -3) hx hb d_R_readText_28 (by decide) ?_
  refine x_put C0 hw 12 rfl rfl i_R tk_R n_R 5 (by decide) wm_170 rfl rfl rfl rfl (Nat.le_of_ble_eq_true rfl) (ws' := WB ad ca T_length T_bytes C_size C_given C_empty C_drafted_1 C_draftedGiven_2 C_block C_left C_right C_pivot C_positive C_negative C_live C_needed (0 : Int32) (-1 : Int32) (0 : Int32) (-3 : Int32) R_tokenPlace R_number (0 : Int32) R_block R_positive R_negative R_left R_right R_pivot L_of F_cut F_labelledA F_labelledB F_row A_root A_words A_known G_size G_variable G_low G_high G_numberOf G_nodeOf G_sides G_waiting B_table B_nextTable) rfl d_R_readText_30 (fun H locs hw => ?_)
  refine lv_iconst (v := 0) hx hb d_R_readText_33 (by decide) ?_
  refine lv_istore_n (lv' := [(1, .int (0 : Int32)), (0, .ref (ad 12))]) hx hb d_R_readText_34 rfl hl (by decide) rfl (fun ls hl => ?_)
  obtain ⟨j_31, h⟩ := h
  refine b_R_readText_L35 C0 _ _ _ _ _ _ _ _ _ _ _ _ _ _ _ _ _ _ _ _ _ _ _ _ h hw (lv_sub hl [1, 0] rfl)

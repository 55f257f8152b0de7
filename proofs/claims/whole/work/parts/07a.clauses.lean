theorem g_B_bitOf : GY y_B_bitOf b_B_bitOf 1 (some .int) 1 := ⟨wm_457, wm_53, by decide +kernel, by decide +kernel, by decide +kernel⟩
def p_B_bitOf (x0 : Int32) (k : Int32 → Prop) : Prop :=
  (k ((1 : Int32) <<< ((x0 - (1 : Int32)) &&& 31)))
abbrev rm_B_bitOf : Room := { frames := 0, cells := 0, slots := 0, locals := 0 }
set_option maxHeartbeats 4000000 in
set_option maxRecDepth 100000 in
theorem c_B_bitOf {l : Launch} {D : va_G} {ca : Nat → ClassId} {tp : Nat} {ad : Nat → Nat} {T_length : Int32} {T_bytes : Nat → Int32} {C_size : Int32} {C_given : Int32} {C_empty : Int32} {C_drafted : Int32} {C_draftedGiven : Int32} {C_block : Nat → Int32} {C_left : Nat → Int32} {C_right : Nat → Int32} {C_pivot : Nat → Int32} {C_positive : Nat → Int32} {C_negative : Nat → Int32} {C_live : Nat → Int32} {C_needed : Nat → Int32} {R_kind : Int32} {R_place : Int32} {R_at : Int32} {R_token : Int32} {R_tokenPlace : Int32} {R_number : Int32} {R_state : Int32} {R_block : Int32} {R_positive : Int32} {R_negative : Int32} {R_left : Int32} {R_right : Int32} {R_pivot : Int32} {L_of : Nat → Int32} {F_cut : Int32} {F_labelledA : Int32} {F_labelledB : Int32} {F_row : Nat → Int64} {A_root : Int32} {A_words : Nat → Int64} {A_known : Nat → Int32} {G_size : Int32} {G_variable : Nat → Int32} {G_low : Nat → Int32} {G_high : Nat → Int32} {G_numberOf : Nat → Int32} {G_nodeOf : Nat → Int32} {G_sides : Nat → Int32} {G_waiting : Nat → Int32} {B_table : Nat → Int64} {B_nextTable : Nat → Int64} {x0 : Int32} {k : Int32 → Prop} (h : p_B_bitOf x0 k) :
    MTi l y_B_bitOf b_B_bitOf 1 (some .int) rm_B_bitOf D ca tp [.int x0] (WB ad ca T_length T_bytes C_size C_given C_empty C_drafted C_draftedGiven C_block C_left C_right C_pivot C_positive C_negative C_live C_needed R_kind R_place R_at R_token R_tokenPlace R_number R_state R_block R_positive R_negative R_left R_right R_pivot L_of F_cut F_labelledA F_labelledB F_row A_root A_words A_known G_size G_variable G_low G_high G_numberOf G_nodeOf G_sides G_waiting B_table B_nextTable)
      (fun r (_ : Unit) => k r)
      (fun (_ : Unit) => WB ad ca T_length T_bytes C_size C_given C_empty C_drafted C_draftedGiven C_block C_left C_right C_pivot C_positive C_negative C_live C_needed R_kind R_place R_at R_token R_tokenPlace R_number R_state R_block R_positive R_negative R_left R_right R_pivot L_of F_cut F_labelledA F_labelledB F_row A_root A_words A_known G_size G_variable G_low G_high G_numberOf G_nodeOf G_sides G_waiting B_table B_nextTable) 0 0 := by
  refine x_entryi (own := R_B) (nm := "bitOf") (by decide) rfl rfl (Nat.le_of_ble_eq_true rfl) (fun p e s m below meth c A ls C0 hw hl => ?_)
  have hx := C0.1
  have hb := C0.2.1
  have hl : lv_has ls 1 [(0, .int x0)] := hl
  unfold p_B_bitOf at h
  refine lv_iconst (v := 1) hx hb d_B_bitOf_0 (by decide) ?_
  refine lv_iload_n hx hb d_B_bitOf_1 rfl (lv_at hl 0 rfl) ?_
  refine lv_iconst (v := 1) hx hb d_B_bitOf_2 (by decide) ?_
  refine lv_isub hx hb d_B_bitOf_3 ?_
  refine lv_ishl hx hb d_B_bitOf_4 ?_
  exact x_iret C0 hw () h rfl d_B_bitOf_5
theorem g_B_isVariable : GY y_B_isVariable b_B_isVariable 1 (some .boolean) 1 := ⟨wm_450, wm_53, by decide +kernel, by decide +kernel, by decide +kernel⟩
def p_B_isVariable (x0 : Int32) (k : Int32 → Prop) : Prop :=
  ((x0 < (1 : Int32) → (k (0 : Int32))) ∧ (¬ x0 < (1 : Int32) → (((10 : Int32) < x0 → (k (0 : Int32))) ∧ (¬ (10 : Int32) < x0 → (k (1 : Int32))))))
abbrev rm_B_isVariable : Room := { frames := 0, cells := 0, slots := 0, locals := 0 }
set_option maxHeartbeats 4000000 in
set_option maxRecDepth 100000 in
theorem c_B_isVariable {l : Launch} {D : va_G} {ca : Nat → ClassId} {tp : Nat} {ad : Nat → Nat} {T_length : Int32} {T_bytes : Nat → Int32} {C_size : Int32} {C_given : Int32} {C_empty : Int32} {C_drafted : Int32} {C_draftedGiven : Int32} {C_block : Nat → Int32} {C_left : Nat → Int32} {C_right : Nat → Int32} {C_pivot : Nat → Int32} {C_positive : Nat → Int32} {C_negative : Nat → Int32} {C_live : Nat → Int32} {C_needed : Nat → Int32} {R_kind : Int32} {R_place : Int32} {R_at : Int32} {R_token : Int32} {R_tokenPlace : Int32} {R_number : Int32} {R_state : Int32} {R_block : Int32} {R_positive : Int32} {R_negative : Int32} {R_left : Int32} {R_right : Int32} {R_pivot : Int32} {L_of : Nat → Int32} {F_cut : Int32} {F_labelledA : Int32} {F_labelledB : Int32} {F_row : Nat → Int64} {A_root : Int32} {A_words : Nat → Int64} {A_known : Nat → Int32} {G_size : Int32} {G_variable : Nat → Int32} {G_low : Nat → Int32} {G_high : Nat → Int32} {G_numberOf : Nat → Int32} {G_nodeOf : Nat → Int32} {G_sides : Nat → Int32} {G_waiting : Nat → Int32} {B_table : Nat → Int64} {B_nextTable : Nat → Int64} {x0 : Int32} {k : Int32 → Prop} (h : p_B_isVariable x0 k) :
    MTi l y_B_isVariable b_B_isVariable 1 (some .boolean) rm_B_isVariable D ca tp [.int x0] (WB ad ca T_length T_bytes C_size C_given C_empty C_drafted C_draftedGiven C_block C_left C_right C_pivot C_positive C_negative C_live C_needed R_kind R_place R_at R_token R_tokenPlace R_number R_state R_block R_positive R_negative R_left R_right R_pivot L_of F_cut F_labelledA F_labelledB F_row A_root A_words A_known G_size G_variable G_low G_high G_numberOf G_nodeOf G_sides G_waiting B_table B_nextTable)
      (fun r (_ : Unit) => k r)
      (fun (_ : Unit) => WB ad ca T_length T_bytes C_size C_given C_empty C_drafted C_draftedGiven C_block C_left C_right C_pivot C_positive C_negative C_live C_needed R_kind R_place R_at R_token R_tokenPlace R_number R_state R_block R_positive R_negative R_left R_right R_pivot L_of F_cut F_labelledA F_labelledB F_row A_root A_words A_known G_size G_variable G_low G_high G_numberOf G_nodeOf G_sides G_waiting B_table B_nextTable) 0 0 := by
  refine x_entryi (own := R_B) (nm := "isVariable") (by decide) rfl rfl (Nat.le_of_ble_eq_true rfl) (fun p e s m below meth c A ls C0 hw hl => ?_)
  have hx := C0.1
  have hb := C0.2.1
  have hl : lv_has ls 1 [(0, .int x0)] := hl
  unfold p_B_isVariable at h
  refine lv_iload_n hx hb d_B_isVariable_0 rfl (lv_at hl 0 rfl) ?_
  refine lv_iconst (v := 1) hx hb d_B_isVariable_1 (by decide) ?_
  refine lv_icmp_lt (tgt := 15) hx hb d_B_isVariable_2 (by decide) (fun c_1 => ?_) (fun c_1 => ?_)
  · have h := h.1 c_1
    refine lv_iconst (v := 0) hx hb d_B_isVariable_15 (by decide) ?_
    exact x_zret C0 hw rfl () h rfl d_B_isVariable_16
  · have h := h.2 c_1
    refine lv_iload_n hx hb d_B_isVariable_5 rfl (lv_at hl 0 rfl) ?_
    refine lv_bipush (v := 10) hx hb d_B_isVariable_6 (by decide) ?_
    refine lv_icmp_gt (tgt := 15) hx hb d_B_isVariable_8 (by decide) (fun c_2 => ?_) (fun c_2 => ?_)
    · have h := h.1 c_2
      refine lv_iconst (v := 0) hx hb d_B_isVariable_15 (by decide) ?_
      exact x_zret C0 hw rfl () h rfl d_B_isVariable_16
    · have h := h.2 c_2
      refine lv_iconst (v := 1) hx hb d_B_isVariable_11 (by decide) ?_
      refine lv_goto (tgt := 16) hx hb d_B_isVariable_12 (by decide) ?_
      exact x_zret C0 hw rfl () h rfl d_B_isVariable_16
theorem g_B_isCut : GY y_B_isCut b_B_isCut 1 (some .boolean) 1 := ⟨wm_556, wm_53, by decide +kernel, by decide +kernel, by decide +kernel⟩
def p_B_isCut (x0 : Int32) (k : Int32 → Prop) : Prop :=
  ((x0 < (1 : Int32) → (k (0 : Int32))) ∧ (¬ x0 < (1 : Int32) → (((7 : Int32) < x0 → (k (0 : Int32))) ∧ (¬ (7 : Int32) < x0 → (k (1 : Int32))))))
abbrev rm_B_isCut : Room := { frames := 0, cells := 0, slots := 0, locals := 0 }
set_option maxHeartbeats 4000000 in
set_option maxRecDepth 100000 in
theorem c_B_isCut {l : Launch} {D : va_G} {ca : Nat → ClassId} {tp : Nat} {ad : Nat → Nat} {T_length : Int32} {T_bytes : Nat → Int32} {C_size : Int32} {C_given : Int32} {C_empty : Int32} {C_drafted : Int32} {C_draftedGiven : Int32} {C_block : Nat → Int32} {C_left : Nat → Int32} {C_right : Nat → Int32} {C_pivot : Nat → Int32} {C_positive : Nat → Int32} {C_negative : Nat → Int32} {C_live : Nat → Int32} {C_needed : Nat → Int32} {R_kind : Int32} {R_place : Int32} {R_at : Int32} {R_token : Int32} {R_tokenPlace : Int32} {R_number : Int32} {R_state : Int32} {R_block : Int32} {R_positive : Int32} {R_negative : Int32} {R_left : Int32} {R_right : Int32} {R_pivot : Int32} {L_of : Nat → Int32} {F_cut : Int32} {F_labelledA : Int32} {F_labelledB : Int32} {F_row : Nat → Int64} {A_root : Int32} {A_words : Nat → Int64} {A_known : Nat → Int32} {G_size : Int32} {G_variable : Nat → Int32} {G_low : Nat → Int32} {G_high : Nat → Int32} {G_numberOf : Nat → Int32} {G_nodeOf : Nat → Int32} {G_sides : Nat → Int32} {G_waiting : Nat → Int32} {B_table : Nat → Int64} {B_nextTable : Nat → Int64} {x0 : Int32} {k : Int32 → Prop} (h : p_B_isCut x0 k) :
    MTi l y_B_isCut b_B_isCut 1 (some .boolean) rm_B_isCut D ca tp [.int x0] (WB ad ca T_length T_bytes C_size C_given C_empty C_drafted C_draftedGiven C_block C_left C_right C_pivot C_positive C_negative C_live C_needed R_kind R_place R_at R_token R_tokenPlace R_number R_state R_block R_positive R_negative R_left R_right R_pivot L_of F_cut F_labelledA F_labelledB F_row A_root A_words A_known G_size G_variable G_low G_high G_numberOf G_nodeOf G_sides G_waiting B_table B_nextTable)
      (fun r (_ : Unit) => k r)
      (fun (_ : Unit) => WB ad ca T_length T_bytes C_size C_given C_empty C_drafted C_draftedGiven C_block C_left C_right C_pivot C_positive C_negative C_live C_needed R_kind R_place R_at R_token R_tokenPlace R_number R_state R_block R_positive R_negative R_left R_right R_pivot L_of F_cut F_labelledA F_labelledB F_row A_root A_words A_known G_size G_variable G_low G_high G_numberOf G_nodeOf G_sides G_waiting B_table B_nextTable) 0 0 := by
  refine x_entryi (own := R_B) (nm := "isCut") (by decide) rfl rfl (Nat.le_of_ble_eq_true rfl) (fun p e s m below meth c A ls C0 hw hl => ?_)
  have hx := C0.1
  have hb := C0.2.1
  have hl : lv_has ls 1 [(0, .int x0)] := hl
  unfold p_B_isCut at h
  refine lv_iload_n hx hb d_B_isCut_0 rfl (lv_at hl 0 rfl) ?_
  refine lv_iconst (v := 1) hx hb d_B_isCut_1 (by decide) ?_
  refine lv_icmp_lt (tgt := 15) hx hb d_B_isCut_2 (by decide) (fun c_1 => ?_) (fun c_1 => ?_)
  · have h := h.1 c_1
    refine lv_iconst (v := 0) hx hb d_B_isCut_15 (by decide) ?_
    exact x_zret C0 hw rfl () h rfl d_B_isCut_16
  · have h := h.2 c_1
    refine lv_iload_n hx hb d_B_isCut_5 rfl (lv_at hl 0 rfl) ?_
    refine lv_bipush (v := 7) hx hb d_B_isCut_6 (by decide) ?_
    refine lv_icmp_gt (tgt := 15) hx hb d_B_isCut_8 (by decide) (fun c_2 => ?_) (fun c_2 => ?_)
    · have h := h.1 c_2
      refine lv_iconst (v := 0) hx hb d_B_isCut_15 (by decide) ?_
      exact x_zret C0 hw rfl () h rfl d_B_isCut_16
    · have h := h.2 c_2
      refine lv_iconst (v := 1) hx hb d_B_isCut_11 (by decide) ?_
      refine lv_goto (tgt := 16) hx hb d_B_isCut_12 (by decide) ?_
      exact x_zret C0 hw rfl () h rfl d_B_isCut_16
theorem g_B_isSystem : GY y_B_isSystem b_B_isSystem 1 (some .boolean) 1 := ⟨wm_571, wm_53, by decide +kernel, by decide +kernel, by decide +kernel⟩
def p_B_isSystem (x0 : Int32) (k : Int32 → Prop) : Prop :=
  ((x0 < 0 → (k (0 : Int32))) ∧ (¬ x0 < 0 → (((4 : Int32) ≤ x0 → (k (0 : Int32))) ∧ (¬ (4 : Int32) ≤ x0 → (k (1 : Int32))))))
abbrev rm_B_isSystem : Room := { frames := 0, cells := 0, slots := 0, locals := 0 }
set_option maxHeartbeats 4000000 in
set_option maxRecDepth 100000 in
theorem c_B_isSystem {l : Launch} {D : va_G} {ca : Nat → ClassId} {tp : Nat} {ad : Nat → Nat} {T_length : Int32} {T_bytes : Nat → Int32} {C_size : Int32} {C_given : Int32} {C_empty : Int32} {C_drafted : Int32} {C_draftedGiven : Int32} {C_block : Nat → Int32} {C_left : Nat → Int32} {C_right : Nat → Int32} {C_pivot : Nat → Int32} {C_positive : Nat → Int32} {C_negative : Nat → Int32} {C_live : Nat → Int32} {C_needed : Nat → Int32} {R_kind : Int32} {R_place : Int32} {R_at : Int32} {R_token : Int32} {R_tokenPlace : Int32} {R_number : Int32} {R_state : Int32} {R_block : Int32} {R_positive : Int32} {R_negative : Int32} {R_left : Int32} {R_right : Int32} {R_pivot : Int32} {L_of : Nat → Int32} {F_cut : Int32} {F_labelledA : Int32} {F_labelledB : Int32} {F_row : Nat → Int64} {A_root : Int32} {A_words : Nat → Int64} {A_known : Nat → Int32} {G_size : Int32} {G_variable : Nat → Int32} {G_low : Nat → Int32} {G_high : Nat → Int32} {G_numberOf : Nat → Int32} {G_nodeOf : Nat → Int32} {G_sides : Nat → Int32} {G_waiting : Nat → Int32} {B_table : Nat → Int64} {B_nextTable : Nat → Int64} {x0 : Int32} {k : Int32 → Prop} (h : p_B_isSystem x0 k) :
    MTi l y_B_isSystem b_B_isSystem 1 (some .boolean) rm_B_isSystem D ca tp [.int x0] (WB ad ca T_length T_bytes C_size C_given C_empty C_drafted C_draftedGiven C_block C_left C_right C_pivot C_positive C_negative C_live C_needed R_kind R_place R_at R_token R_tokenPlace R_number R_state R_block R_positive R_negative R_left R_right R_pivot L_of F_cut F_labelledA F_labelledB F_row A_root A_words A_known G_size G_variable G_low G_high G_numberOf G_nodeOf G_sides G_waiting B_table B_nextTable)
      (fun r (_ : Unit) => k r)
      (fun (_ : Unit) => WB ad ca T_length T_bytes C_size C_given C_empty C_drafted C_draftedGiven C_block C_left C_right C_pivot C_positive C_negative C_live C_needed R_kind R_place R_at R_token R_tokenPlace R_number R_state R_block R_positive R_negative R_left R_right R_pivot L_of F_cut F_labelledA F_labelledB F_row A_root A_words A_known G_size G_variable G_low G_high G_numberOf G_nodeOf G_sides G_waiting B_table B_nextTable) 0 0 := by
  refine x_entryi (own := R_B) (nm := "isSystem") (by decide) rfl rfl (Nat.le_of_ble_eq_true rfl) (fun p e s m below meth c A ls C0 hw hl => ?_)
  have hx := C0.1
  have hb := C0.2.1
  have hl : lv_has ls 1 [(0, .int x0)] := hl
  unfold p_B_isSystem at h
  refine lv_iload_n hx hb d_B_isSystem_0 rfl (lv_at hl 0 rfl) ?_
  refine lv_if_lt (tgt := 13) hx hb d_B_isSystem_1 (by decide) (fun c_1 => ?_) (fun c_1 => ?_)
  · have h := h.1 c_1
    refine lv_iconst (v := 0) hx hb d_B_isSystem_13 (by decide) ?_
    exact x_zret C0 hw rfl () h rfl d_B_isSystem_14
  · have h := h.2 c_1
    refine lv_iload_n hx hb d_B_isSystem_4 rfl (lv_at hl 0 rfl) ?_
    refine lv_iconst (v := 4) hx hb d_B_isSystem_5 (by decide) ?_
    refine lv_icmp_ge (tgt := 13) hx hb d_B_isSystem_6 (by decide) (fun c_2 => ?_) (fun c_2 => ?_)
    · have h := h.1 c_2
      refine lv_iconst (v := 0) hx hb d_B_isSystem_13 (by decide) ?_
      exact x_zret C0 hw rfl () h rfl d_B_isSystem_14
    · have h := h.2 c_2
      refine lv_iconst (v := 1) hx hb d_B_isSystem_9 (by decide) ?_
      refine lv_goto (tgt := 14) hx hb d_B_isSystem_10 (by decide) ?_
      exact x_zret C0 hw rfl () h rfl d_B_isSystem_14
theorem g_U_ofVariable : GY y_U_ofVariable b_U_ofVariable 2 (some .long) 2 := ⟨wm_601, wm_63, by decide +kernel, by decide +kernel, by decide +kernel⟩
def p_U_ofVariable (x0 : Int32) (x1 : Int32) (k : Int64 → Prop) : Prop :=
  ((x0 < (1 : Int32) → ((¬ ((x1 >>> (((x0 - (1 : Int32)) - (6 : Int32)) &&& 31)) &&& (1 : Int32)) = 0 → (k (-1 : Int64))) ∧ (((x1 >>> (((x0 - (1 : Int32)) - (6 : Int32)) &&& 31)) &&& (1 : Int32)) = 0 → (k (0 : Int64))))) ∧ (¬ x0 < (1 : Int32) → (((6 : Int32) < x0 → ((¬ ((x1 >>> (((x0 - (1 : Int32)) - (6 : Int32)) &&& 31)) &&& (1 : Int32)) = 0 → (k (-1 : Int64))) ∧ (((x1 >>> (((x0 - (1 : Int32)) - (6 : Int32)) &&& 31)) &&& (1 : Int32)) = 0 → (k (0 : Int64))))) ∧ (¬ (6 : Int32) < x0 → (vp_in (x0 - (1 : Int32)) 6 ∧ (k (pt6 (x0 - (1 : Int32)).toNatClampNeg)))))))
abbrev rm_U_ofVariable : Room := { frames := 0, cells := 0, slots := 0, locals := 0 }
set_option maxHeartbeats 4000000 in
set_option maxRecDepth 100000 in
theorem c_U_ofVariable {l : Launch} {D : va_G} {ca : Nat → ClassId} {tp : Nat} {ad : Nat → Nat} {T_length : Int32} {T_bytes : Nat → Int32} {C_size : Int32} {C_given : Int32} {C_empty : Int32} {C_drafted : Int32} {C_draftedGiven : Int32} {C_block : Nat → Int32} {C_left : Nat → Int32} {C_right : Nat → Int32} {C_pivot : Nat → Int32} {C_positive : Nat → Int32} {C_negative : Nat → Int32} {C_live : Nat → Int32} {C_needed : Nat → Int32} {R_kind : Int32} {R_place : Int32} {R_at : Int32} {R_token : Int32} {R_tokenPlace : Int32} {R_number : Int32} {R_state : Int32} {R_block : Int32} {R_positive : Int32} {R_negative : Int32} {R_left : Int32} {R_right : Int32} {R_pivot : Int32} {L_of : Nat → Int32} {F_cut : Int32} {F_labelledA : Int32} {F_labelledB : Int32} {F_row : Nat → Int64} {A_root : Int32} {A_words : Nat → Int64} {A_known : Nat → Int32} {G_size : Int32} {G_variable : Nat → Int32} {G_low : Nat → Int32} {G_high : Nat → Int32} {G_numberOf : Nat → Int32} {G_nodeOf : Nat → Int32} {G_sides : Nat → Int32} {G_waiting : Nat → Int32} {B_table : Nat → Int64} {B_nextTable : Nat → Int64} {x0 : Int32} {x1 : Int32} {k : Int64 → Prop} (h : p_U_ofVariable x0 x1 k) :
    MTl l y_U_ofVariable b_U_ofVariable 2 (some .long) rm_U_ofVariable D ca tp [.int x0, .int x1] (WB ad ca T_length T_bytes C_size C_given C_empty C_drafted C_draftedGiven C_block C_left C_right C_pivot C_positive C_negative C_live C_needed R_kind R_place R_at R_token R_tokenPlace R_number R_state R_block R_positive R_negative R_left R_right R_pivot L_of F_cut F_labelledA F_labelledB F_row A_root A_words A_known G_size G_variable G_low G_high G_numberOf G_nodeOf G_sides G_waiting B_table B_nextTable)
      (fun r (_ : Unit) => k r)
      (fun (_ : Unit) => WB ad ca T_length T_bytes C_size C_given C_empty C_drafted C_draftedGiven C_block C_left C_right C_pivot C_positive C_negative C_live C_needed R_kind R_place R_at R_token R_tokenPlace R_number R_state R_block R_positive R_negative R_left R_right R_pivot L_of F_cut F_labelledA F_labelledB F_row A_root A_words A_known G_size G_variable G_low G_high G_numberOf G_nodeOf G_sides G_waiting B_table B_nextTable) 0 0 := by
  refine x_entryl (own := R_U) (nm := "ofVariable") (by decide) rfl rfl (Nat.le_of_ble_eq_true rfl) (fun p e s m below meth c A ls C0 hw hl => ?_)
  have hx := C0.1
  have hb := C0.2.1
  have hl : lv_has ls 2 [(0, .int x0), (1, .int x1)] := hl
  unfold p_U_ofVariable at h
  refine lv_iload_n hx hb d_U_ofVariable_0 rfl (lv_at hl 0 rfl) ?_
  refine lv_iconst (v := 1) hx hb d_U_ofVariable_1 (by decide) ?_
  refine lv_icmp_lt (tgt := 19) hx hb d_U_ofVariable_2 (by decide) (fun c_1 => ?_) (fun c_1 => ?_)
  · have h := h.1 c_1
    refine lv_iload_n hx hb d_U_ofVariable_19 rfl (lv_at hl 1 rfl) ?_
    refine lv_iload_n hx hb d_U_ofVariable_20 rfl (lv_at hl 0 rfl) ?_
    refine lv_iconst (v := 1) hx hb d_U_ofVariable_21 (by decide) ?_
    refine lv_isub hx hb d_U_ofVariable_22 ?_
    refine lv_bipush (v := 6) hx hb d_U_ofVariable_23 (by decide) ?_
    refine lv_isub hx hb d_U_ofVariable_25 ?_
    refine lv_ishr hx hb d_U_ofVariable_26 ?_
    refine lv_iconst (v := 1) hx hb d_U_ofVariable_27 (by decide) ?_
    refine lv_iand hx hb d_U_ofVariable_28 ?_
    refine lv_if_ne (tgt := 36) hx hb d_U_ofVariable_29 (by decide) (fun c_2 => ?_) (fun c_2 => ?_)
    · have h := h.1 c_2
      refine x_ldc2 C0 wm_604 d_U_ofVariable_36 ?_
      exact x_lret C0 hw () h rfl d_U_ofVariable_39
    · have h := h.2 c_2
      refine lv_lconst (v := 0) hx hb d_U_ofVariable_32 (by decide) ?_
      refine lv_goto (tgt := 39) hx hb d_U_ofVariable_33 (by decide) ?_
      exact x_lret C0 hw () h rfl d_U_ofVariable_39
  · have h := h.2 c_1
    refine lv_iload_n hx hb d_U_ofVariable_5 rfl (lv_at hl 0 rfl) ?_
    refine lv_bipush (v := 6) hx hb d_U_ofVariable_6 (by decide) ?_
    refine lv_icmp_gt (tgt := 19) hx hb d_U_ofVariable_8 (by decide) (fun c_3 => ?_) (fun c_3 => ?_)
    · have h := h.1 c_3
      refine lv_iload_n hx hb d_U_ofVariable_19 rfl (lv_at hl 1 rfl) ?_
      refine lv_iload_n hx hb d_U_ofVariable_20 rfl (lv_at hl 0 rfl) ?_
      refine lv_iconst (v := 1) hx hb d_U_ofVariable_21 (by decide) ?_
      refine lv_isub hx hb d_U_ofVariable_22 ?_
      refine lv_bipush (v := 6) hx hb d_U_ofVariable_23 (by decide) ?_
      refine lv_isub hx hb d_U_ofVariable_25 ?_
      refine lv_ishr hx hb d_U_ofVariable_26 ?_
      refine lv_iconst (v := 1) hx hb d_U_ofVariable_27 (by decide) ?_
      refine lv_iand hx hb d_U_ofVariable_28 ?_
      refine lv_if_ne (tgt := 36) hx hb d_U_ofVariable_29 (by decide) (fun c_4 => ?_) (fun c_4 => ?_)
      · have h := h.1 c_4
        refine x_ldc2 C0 wm_604 d_U_ofVariable_36 ?_
        exact x_lret C0 hw () h rfl d_U_ofVariable_39
      · have h := h.2 c_4
        refine lv_lconst (v := 0) hx hb d_U_ofVariable_32 (by decide) ?_
        refine lv_goto (tgt := 39) hx hb d_U_ofVariable_33 (by decide) ?_
        exact x_lret C0 hw () h rfl d_U_ofVariable_39
    · have h := h.2 c_3
      refine x_pats C0 hw wm_602 d_U_ofVariable_11 ?_
      refine lv_iload_n hx hb d_U_ofVariable_14 rfl (lv_at hl 0 rfl) ?_
      refine lv_iconst (v := 1) hx hb d_U_ofVariable_15 (by decide) ?_
      refine lv_isub hx hb d_U_ofVariable_16 ?_
      obtain ⟨hi_5, h⟩ := h
      refine x_pat C0 hw hi_5 d_U_ofVariable_17 ?_
      exact x_lret C0 hw () h rfl d_U_ofVariable_18
theorem g_U_ofAny : GY y_U_ofAny b_U_ofAny 6 (some .long) 3 := ⟨wm_612, wm_63, by decide +kernel, by decide +kernel, by decide +kernel⟩
def p_U_ofAny_J31 (k5 : Int64 → Int32 → Prop) (x0 : Int32) (x1 : Int32) (x2 : Int32) (x3 : Int64) (x5 : Int32) : Prop :=
  (p_B_bitOf x5 (fun (r_4 : Int32) => (((x1 &&& r_4) = 0 → (k5 x3 (x5 + 1))) ∧ (¬ (x1 &&& r_4) = 0 → (p_U_ofVariable x5 x2 (fun (r_6 : Int64) => (k5 (x3 ||| (r_6 ^^^ (-1 : Int64))) (x5 + 1))))))))
def p_U_ofAny_L5 (x0 : Int32) (x1 : Int32) (x2 : Int32) (k : Int64 → Prop) : Nat → Int64 → Int32 → Prop
  | 0, _, _ => False
  | n + 1, x3, x5 =>
    (((10 : Int32) < x5 → (k x3)) ∧ (¬ (10 : Int32) < x5 → (p_B_bitOf x5 (fun (r_2 : Int32) => (((x0 &&& r_2) = 0 → (p_U_ofAny_J31 (p_U_ofAny_L5 x0 x1 x2 k n) x0 x1 x2 x3 x5)) ∧ (¬ (x0 &&& r_2) = 0 → (p_U_ofVariable x5 x2 (fun (r_7 : Int64) => (p_U_ofAny_J31 (p_U_ofAny_L5 x0 x1 x2 k n) x0 x1 x2 (x3 ||| r_7) x5)))))))))
def p_U_ofAny (x0 : Int32) (x1 : Int32) (x2 : Int32) (k : Int64 → Prop) : Prop :=
  (∃ j_8, p_U_ofAny_L5 x0 x1 x2 k j_8 (0 : Int64) (1 : Int32))
abbrev rm_U_ofAny : Room := { frames := 1, cells := 0, slots := 0, locals := 21 }
set_option maxHeartbeats 4000000 in
set_option maxRecDepth 100000 in
theorem b_U_ofAny_J31 {p : Program} {l : Launch} {e : Env} {s : State} {m : MethodId} {args : Array Value} {below : List Frame} {meth : Method} {c : Code} {D : va_G} {ca : Nat → ClassId} {tp : Nat} {A : Nat → Prop} {ad : Nat → Nat} {T_length : Int32} {T_bytes : Nat → Int32} {C_size : Int32} {C_given : Int32} {C_empty : Int32} {C_drafted : Int32} {C_draftedGiven : Int32} {C_block : Nat → Int32} {C_left : Nat → Int32} {C_right : Nat → Int32} {C_pivot : Nat → Int32} {C_positive : Nat → Int32} {C_negative : Nat → Int32} {C_live : Nat → Int32} {C_needed : Nat → Int32} {R_kind : Int32} {R_place : Int32} {R_at : Int32} {R_token : Int32} {R_tokenPlace : Int32} {R_number : Int32} {R_state : Int32} {R_block : Int32} {R_positive : Int32} {R_negative : Int32} {R_left : Int32} {R_right : Int32} {R_pivot : Int32} {L_of : Nat → Int32} {F_cut : Int32} {F_labelledA : Int32} {F_labelledB : Int32} {F_row : Nat → Int64} {A_root : Int32} {A_words : Nat → Int64} {A_known : Nat → Int32} {G_size : Int32} {G_variable : Nat → Int32} {G_low : Nat → Int32} {G_high : Nat → Int32} {G_numberOf : Nat → Int32} {G_nodeOf : Nat → Int32} {G_sides : Nat → Int32} {G_waiting : Nat → Int32} {B_table : Nat → Int64} {B_nextTable : Nat → Int64}  {k : Int64 → Prop} {k5 : Int64 → Int32 → Prop} (C0 : CX p s m args meth c b_U_ofAny 6 (some .long) R_U "ofAny" D ca tp A) :
    ∀ (x0 : Int32) (x1 : Int32) (x2 : Int32) (x3 : Int64) (x5 : Int32) {H : Heap} {locs : List Loc} {ls : Array Slot}, p_U_ofAny_J31 k5 x0 x1 x2 x3 x5 → WH D A s (WB ad ca T_length T_bytes C_size C_given C_empty C_drafted C_draftedGiven C_block C_left C_right C_pivot C_positive C_negative C_live C_needed R_kind R_place R_at R_token R_tokenPlace R_number R_state R_block R_positive R_negative R_left R_right R_pivot L_of F_cut F_labelledA F_labelledB F_row A_root A_words A_known G_size G_variable G_low G_high G_numberOf G_nodeOf G_sides G_waiting B_table B_nextTable) H locs → lv_has ls 6 [(0, .int x0), (1, .int x1), (2, .int x2), (3, .long x3), (5, .int x5)] →
      (∀ (x3 : Int64) (x5 : Int32) (H : Heap) (locs : List Loc) (ls : Array Slot), k5 x3 x5 → WH D A s (WB ad ca T_length T_bytes C_size C_given C_empty C_drafted C_draftedGiven C_block C_left C_right C_pivot C_positive C_negative C_live C_needed R_kind R_place R_at R_token R_tokenPlace R_number R_state R_block R_positive R_negative R_left R_right R_pivot L_of F_cut F_labelledA F_labelledB F_row A_root A_words A_known G_size G_variable G_low G_high G_numberOf G_nodeOf G_sides G_waiting B_table B_nextTable) H locs → lv_has ls 6 [(0, .int x0), (1, .int x1), (2, .int x2), (3, .long x3), (5, .int x5)] → W p l e rm_U_ofAny s m args below meth c H locs 0 0 (QL D A below args s (fun r (_ : Unit) => k r) (fun (_ : Unit) => WB ad ca T_length T_bytes C_size C_given C_empty C_drafted C_draftedGiven C_block C_left C_right C_pivot C_positive C_negative C_live C_needed R_kind R_place R_at R_token R_tokenPlace R_number R_state R_block R_positive R_negative R_left R_right R_pivot L_of F_cut F_labelledA F_labelledB F_row A_root A_words A_known G_size G_variable G_low G_high G_numberOf G_nodeOf G_sides G_waiting B_table B_nextTable) 0 0) (F0 m 5 ls [])) →
      W p l e rm_U_ofAny s m args below meth c H locs 0 0 (QL D A below args s (fun r (_ : Unit) => k r) (fun (_ : Unit) => WB ad ca T_length T_bytes C_size C_given C_empty C_drafted C_draftedGiven C_block C_left C_right C_pivot C_positive C_negative C_live C_needed R_kind R_place R_at R_token R_tokenPlace R_number R_state R_block R_positive R_negative R_left R_right R_pivot L_of F_cut F_labelledA F_labelledB F_row A_root A_words A_known G_size G_variable G_low G_high G_numberOf G_nodeOf G_sides G_waiting B_table B_nextTable) 0 0) (F0 m 31 ls []) := by
  have hx := C0.1
  have hb := C0.2.1
  intro x0 x1 x2 x3 x5 H locs ls h hw hl h5
  unfold p_U_ofAny_J31 at h
  refine lv_iload_n hx hb d_U_ofAny_31 rfl (lv_at hl 1 rfl) ?_
  refine lv_iload hx hb d_U_ofAny_32 (lv_at hl 4 rfl) ?_
  refine x_callSNi C0 hw hl (c_B_bitOf h) g_B_bitOf wm_613 wm_456 (As := [.int x5]) (rest := [.int x1]) rfl rfl (Nat.le_of_ble_eq_true rfl) ⟨rfl, rfl⟩ ⟨Nat.le_of_ble_eq_true rfl, Nat.le_of_ble_eq_true rfl⟩ ⟨Nat.le_of_ble_eq_true rfl, Nat.le_of_ble_eq_true rfl⟩ d_U_ofAny_34 (fun r_4 u H locs h hw => ?_)
  refine lv_iand hx hb d_U_ofAny_37 ?_
  refine lv_if_eq (tgt := 54) hx hb d_U_ofAny_38 (by decide) (fun c_5 => ?_) (fun c_5 => ?_)
  · have h := h.1 c_5
    refine lv_iinc (v := (x5 + 1)) (lv' := [(5, .int (x5 + 1)), (0, .int x0), (1, .int x1), (2, .int x2), (3, .long x3)]) hx hb d_U_ofAny_54 hl (k := 4) rfl rfl (by decide) rfl (fun ls hl => ?_)
    refine lv_goto (tgt := 5) hx hb d_U_ofAny_57 (by decide) ?_
    exact h5 _ _ _ _ _ h hw (lv_sub hl [1, 2, 3, 4, 0] rfl)
  · have h := h.2 c_5
    refine lv_lload_n hx hb d_U_ofAny_41 rfl (lv_at hl 3 rfl) ?_
    refine lv_iload hx hb d_U_ofAny_42 (lv_at hl 4 rfl) ?_
    refine lv_iload_n hx hb d_U_ofAny_44 rfl (lv_at hl 2 rfl) ?_
    refine x_callSl C0 hw hl (c_U_ofVariable h) g_U_ofVariable wm_614 wm_600 (As := [.int x5, .int x2]) (rest := [.long x3]) rfl rfl (Nat.le_of_ble_eq_true rfl) ⟨rfl, rfl⟩ ⟨Nat.le_of_ble_eq_true rfl, Nat.le_of_ble_eq_true rfl⟩ ⟨Nat.le_of_ble_eq_true rfl, Nat.le_of_ble_eq_true rfl⟩ d_U_ofAny_45 (fun r_6 u H locs h hw => ?_)
    refine x_ldc2 C0 wm_604 d_U_ofAny_48 ?_
    refine lv_lxor hx hb d_U_ofAny_51 ?_
    refine lv_lor hx hb d_U_ofAny_52 ?_
    refine lv_lstore_n (lv' := [(3, .long (x3 ||| (r_6 ^^^ (-1 : Int64)))), (0, .int x0), (1, .int x1), (2, .int x2), (5, .int x5)]) hx hb d_U_ofAny_53 rfl hl (by decide) rfl (fun ls hl => ?_)
    refine lv_iinc (v := (x5 + 1)) (lv' := [(5, .int (x5 + 1)), (3, .long (x3 ||| (r_6 ^^^ (-1 : Int64)))), (0, .int x0), (1, .int x1), (2, .int x2)]) hx hb d_U_ofAny_54 hl (k := 4) rfl rfl (by decide) rfl (fun ls hl => ?_)
    refine lv_goto (tgt := 5) hx hb d_U_ofAny_57 (by decide) ?_
    exact h5 _ _ _ _ _ h hw (lv_sub hl [2, 3, 4, 1, 0] rfl)
set_option maxHeartbeats 4000000 in
set_option maxRecDepth 100000 in
theorem b_U_ofAny_L5 {p : Program} {l : Launch} {e : Env} {s : State} {m : MethodId} {args : Array Value} {below : List Frame} {meth : Method} {c : Code} {D : va_G} {ca : Nat → ClassId} {tp : Nat} {A : Nat → Prop} {ad : Nat → Nat} {T_length : Int32} {T_bytes : Nat → Int32} {C_size : Int32} {C_given : Int32} {C_empty : Int32} {C_drafted : Int32} {C_draftedGiven : Int32} {C_block : Nat → Int32} {C_left : Nat → Int32} {C_right : Nat → Int32} {C_pivot : Nat → Int32} {C_positive : Nat → Int32} {C_negative : Nat → Int32} {C_live : Nat → Int32} {C_needed : Nat → Int32} {R_kind : Int32} {R_place : Int32} {R_at : Int32} {R_token : Int32} {R_tokenPlace : Int32} {R_number : Int32} {R_state : Int32} {R_block : Int32} {R_positive : Int32} {R_negative : Int32} {R_left : Int32} {R_right : Int32} {R_pivot : Int32} {L_of : Nat → Int32} {F_cut : Int32} {F_labelledA : Int32} {F_labelledB : Int32} {F_row : Nat → Int64} {A_root : Int32} {A_words : Nat → Int64} {A_known : Nat → Int32} {G_size : Int32} {G_variable : Nat → Int32} {G_low : Nat → Int32} {G_high : Nat → Int32} {G_numberOf : Nat → Int32} {G_nodeOf : Nat → Int32} {G_sides : Nat → Int32} {G_waiting : Nat → Int32} {B_table : Nat → Int64} {B_nextTable : Nat → Int64} {x0 : Int32} {x1 : Int32} {x2 : Int32} {k : Int64 → Prop}  (C0 : CX p s m args meth c b_U_ofAny 6 (some .long) R_U "ofAny" D ca tp A) :
    ∀ (n : Nat) (x3 : Int64) (x5 : Int32) {H : Heap} {locs : List Loc} {ls : Array Slot}, p_U_ofAny_L5 x0 x1 x2 k n x3 x5 → WH D A s (WB ad ca T_length T_bytes C_size C_given C_empty C_drafted C_draftedGiven C_block C_left C_right C_pivot C_positive C_negative C_live C_needed R_kind R_place R_at R_token R_tokenPlace R_number R_state R_block R_positive R_negative R_left R_right R_pivot L_of F_cut F_labelledA F_labelledB F_row A_root A_words A_known G_size G_variable G_low G_high G_numberOf G_nodeOf G_sides G_waiting B_table B_nextTable) H locs → lv_has ls 6 [(0, .int x0), (1, .int x1), (2, .int x2), (3, .long x3), (5, .int x5)] →
      W p l e rm_U_ofAny s m args below meth c H locs 0 0 (QL D A below args s (fun r (_ : Unit) => k r) (fun (_ : Unit) => WB ad ca T_length T_bytes C_size C_given C_empty C_drafted C_draftedGiven C_block C_left C_right C_pivot C_positive C_negative C_live C_needed R_kind R_place R_at R_token R_tokenPlace R_number R_state R_block R_positive R_negative R_left R_right R_pivot L_of F_cut F_labelledA F_labelledB F_row A_root A_words A_known G_size G_variable G_low G_high G_numberOf G_nodeOf G_sides G_waiting B_table B_nextTable) 0 0) (F0 m 5 ls []) := by
  have hx := C0.1
  have hb := C0.2.1
  intro n
  induction n with
  | zero =>
    intro x3 x5 H locs ls h
    exact False.elim h
  | succ n ih =>
    intro x3 x5 H locs ls h hw hl
    unfold p_U_ofAny_L5 at h
    refine lv_iload hx hb d_U_ofAny_5 (lv_at hl 4 rfl) ?_
    refine lv_bipush (v := 10) hx hb d_U_ofAny_7 (by decide) ?_
    refine lv_icmp_gt (tgt := 60) hx hb d_U_ofAny_9 (by decide) (fun c_1 => ?_) (fun c_1 => ?_)
    · have h := h.1 c_1
      refine lv_lload_n hx hb d_U_ofAny_60 rfl (lv_at hl 3 rfl) ?_
      exact x_lret C0 hw () h rfl d_U_ofAny_61
    · have h := h.2 c_1
      refine lv_iload_n hx hb d_U_ofAny_12 rfl (lv_at hl 0 rfl) ?_
      refine lv_iload hx hb d_U_ofAny_13 (lv_at hl 4 rfl) ?_
      refine x_callSNi C0 hw hl (c_B_bitOf h) g_B_bitOf wm_613 wm_456 (As := [.int x5]) (rest := [.int x0]) rfl rfl (Nat.le_of_ble_eq_true rfl) ⟨rfl, rfl⟩ ⟨Nat.le_of_ble_eq_true rfl, Nat.le_of_ble_eq_true rfl⟩ ⟨Nat.le_of_ble_eq_true rfl, Nat.le_of_ble_eq_true rfl⟩ d_U_ofAny_15 (fun r_2 u H locs h hw => ?_)
      refine lv_iand hx hb d_U_ofAny_18 ?_
      refine lv_if_eq (tgt := 31) hx hb d_U_ofAny_19 (by decide) (fun c_3 => ?_) (fun c_3 => ?_)
      · have h := h.1 c_3
        refine b_U_ofAny_J31 C0 _ _ _ _ _ h hw (lv_sub hl [0, 1, 2, 3, 4] rfl) (fun _ _ H locs ls h hw hl => ih _ _ h hw hl)
      · have h := h.2 c_3
        refine lv_lload_n hx hb d_U_ofAny_22 rfl (lv_at hl 3 rfl) ?_
        refine lv_iload hx hb d_U_ofAny_23 (lv_at hl 4 rfl) ?_
        refine lv_iload_n hx hb d_U_ofAny_25 rfl (lv_at hl 2 rfl) ?_
        refine x_callSl C0 hw hl (c_U_ofVariable h) g_U_ofVariable wm_614 wm_600 (As := [.int x5, .int x2]) (rest := [.long x3]) rfl rfl (Nat.le_of_ble_eq_true rfl) ⟨rfl, rfl⟩ ⟨Nat.le_of_ble_eq_true rfl, Nat.le_of_ble_eq_true rfl⟩ ⟨Nat.le_of_ble_eq_true rfl, Nat.le_of_ble_eq_true rfl⟩ d_U_ofAny_26 (fun r_7 u H locs h hw => ?_)
        refine lv_lor hx hb d_U_ofAny_29 ?_
        refine lv_lstore_n (lv' := [(3, .long (x3 ||| r_7)), (0, .int x0), (1, .int x1), (2, .int x2), (5, .int x5)]) hx hb d_U_ofAny_30 rfl hl (by decide) rfl (fun ls hl => ?_)
        refine b_U_ofAny_J31 C0 _ _ _ _ _ h hw (lv_sub hl [1, 2, 3, 0, 4] rfl) (fun _ _ H locs ls h hw hl => ih _ _ h hw hl)
set_option maxHeartbeats 4000000 in
set_option maxRecDepth 100000 in
theorem c_U_ofAny {l : Launch} {D : va_G} {ca : Nat → ClassId} {tp : Nat} {ad : Nat → Nat} {T_length : Int32} {T_bytes : Nat → Int32} {C_size : Int32} {C_given : Int32} {C_empty : Int32} {C_drafted : Int32} {C_draftedGiven : Int32} {C_block : Nat → Int32} {C_left : Nat → Int32} {C_right : Nat → Int32} {C_pivot : Nat → Int32} {C_positive : Nat → Int32} {C_negative : Nat → Int32} {C_live : Nat → Int32} {C_needed : Nat → Int32} {R_kind : Int32} {R_place : Int32} {R_at : Int32} {R_token : Int32} {R_tokenPlace : Int32} {R_number : Int32} {R_state : Int32} {R_block : Int32} {R_positive : Int32} {R_negative : Int32} {R_left : Int32} {R_right : Int32} {R_pivot : Int32} {L_of : Nat → Int32} {F_cut : Int32} {F_labelledA : Int32} {F_labelledB : Int32} {F_row : Nat → Int64} {A_root : Int32} {A_words : Nat → Int64} {A_known : Nat → Int32} {G_size : Int32} {G_variable : Nat → Int32} {G_low : Nat → Int32} {G_high : Nat → Int32} {G_numberOf : Nat → Int32} {G_nodeOf : Nat → Int32} {G_sides : Nat → Int32} {G_waiting : Nat → Int32} {B_table : Nat → Int64} {B_nextTable : Nat → Int64} {x0 : Int32} {x1 : Int32} {x2 : Int32} {k : Int64 → Prop} (h : p_U_ofAny x0 x1 x2 k) :
    MTl l y_U_ofAny b_U_ofAny 6 (some .long) rm_U_ofAny D ca tp [.int x0, .int x1, .int x2] (WB ad ca T_length T_bytes C_size C_given C_empty C_drafted C_draftedGiven C_block C_left C_right C_pivot C_positive C_negative C_live C_needed R_kind R_place R_at R_token R_tokenPlace R_number R_state R_block R_positive R_negative R_left R_right R_pivot L_of F_cut F_labelledA F_labelledB F_row A_root A_words A_known G_size G_variable G_low G_high G_numberOf G_nodeOf G_sides G_waiting B_table B_nextTable)
      (fun r (_ : Unit) => k r)
      (fun (_ : Unit) => WB ad ca T_length T_bytes C_size C_given C_empty C_drafted C_draftedGiven C_block C_left C_right C_pivot C_positive C_negative C_live C_needed R_kind R_place R_at R_token R_tokenPlace R_number R_state R_block R_positive R_negative R_left R_right R_pivot L_of F_cut F_labelledA F_labelledB F_row A_root A_words A_known G_size G_variable G_low G_high G_numberOf G_nodeOf G_sides G_waiting B_table B_nextTable) 0 0 := by
  refine x_entryl (own := R_U) (nm := "ofAny") (by decide) rfl rfl (Nat.le_of_ble_eq_true rfl) (fun p e s m below meth c A ls C0 hw hl => ?_)
  have hx := C0.1
  have hb := C0.2.1
  have hl : lv_has ls 6 [(0, .int x0), (1, .int x1), (2, .int x2)] := hl
  unfold p_U_ofAny at h
  refine lv_lconst (v := 0) hx hb d_U_ofAny_0 (by decide) ?_
  refine lv_lstore_n (lv' := [(3, .long (0 : Int64)), (0, .int x0), (1, .int x1), (2, .int x2)]) hx hb d_U_ofAny_1 rfl hl (by decide) rfl (fun ls hl => ?_)
  refine lv_iconst (v := 1) hx hb d_U_ofAny_2 (by decide) ?_
  refine lv_istore (lv' := [(5, .int (1 : Int32)), (3, .long (0 : Int64)), (0, .int x0), (1, .int x1), (2, .int x2)]) hx hb d_U_ofAny_3 hl (by decide) rfl (fun ls hl => ?_)
  obtain ⟨j_8, h⟩ := h
  refine b_U_ofAny_L5 C0 _ _ _ h hw (lv_sub hl [2, 3, 4, 1, 0] rfl)
theorem g_C_startDraft : GY y_C_startDraft b_C_startDraft 1 none 0 := ⟨wm_352, wm_55, by decide +kernel, by decide +kernel, by decide +kernel⟩
def p_C_startDraft (C_size : Int32) (C_given : Int32) (k : Int32 → Int32 → Prop) : Prop :=
  (k C_size C_given)
abbrev rm_C_startDraft : Room := { frames := 0, cells := 0, slots := 0, locals := 0 }
set_option maxHeartbeats 4000000 in
set_option maxRecDepth 100000 in
theorem c_C_startDraft {l : Launch} {D : va_G} {ca : Nat → ClassId} {tp : Nat} {ad : Nat → Nat} {T_length : Int32} {T_bytes : Nat → Int32} {C_size : Int32} {C_given : Int32} {C_empty : Int32} {C_drafted : Int32} {C_draftedGiven : Int32} {C_block : Nat → Int32} {C_left : Nat → Int32} {C_right : Nat → Int32} {C_pivot : Nat → Int32} {C_positive : Nat → Int32} {C_negative : Nat → Int32} {C_live : Nat → Int32} {C_needed : Nat → Int32} {R_kind : Int32} {R_place : Int32} {R_at : Int32} {R_token : Int32} {R_tokenPlace : Int32} {R_number : Int32} {R_state : Int32} {R_block : Int32} {R_positive : Int32} {R_negative : Int32} {R_left : Int32} {R_right : Int32} {R_pivot : Int32} {L_of : Nat → Int32} {F_cut : Int32} {F_labelledA : Int32} {F_labelledB : Int32} {F_row : Nat → Int64} {A_root : Int32} {A_words : Nat → Int64} {A_known : Nat → Int32} {G_size : Int32} {G_variable : Nat → Int32} {G_low : Nat → Int32} {G_high : Nat → Int32} {G_numberOf : Nat → Int32} {G_nodeOf : Nat → Int32} {G_sides : Nat → Int32} {G_waiting : Nat → Int32} {B_table : Nat → Int64} {B_nextTable : Nat → Int64}  {k : Int32 → Int32 → Prop} (h : p_C_startDraft C_size C_given k) :
    MTv l y_C_startDraft b_C_startDraft 1 none rm_C_startDraft D ca tp [.ref (ad 3)] (WB ad ca T_length T_bytes C_size C_given C_empty C_drafted C_draftedGiven C_block C_left C_right C_pivot C_positive C_negative C_live C_needed R_kind R_place R_at R_token R_tokenPlace R_number R_state R_block R_positive R_negative R_left R_right R_pivot L_of F_cut F_labelledA F_labelledB F_row A_root A_words A_known G_size G_variable G_low G_high G_numberOf G_nodeOf G_sides G_waiting B_table B_nextTable)
      (fun (u : Int32 × Int32) => k u.1 u.2)
      (fun (u : Int32 × Int32) => WB ad ca T_length T_bytes C_size C_given C_empty u.1 u.2 C_block C_left C_right C_pivot C_positive C_negative C_live C_needed R_kind R_place R_at R_token R_tokenPlace R_number R_state R_block R_positive R_negative R_left R_right R_pivot L_of F_cut F_labelledA F_labelledB F_row A_root A_words A_known G_size G_variable G_low G_high G_numberOf G_nodeOf G_sides G_waiting B_table B_nextTable) 0 0 := by
  refine x_entryv (own := R_C) (nm := "startDraft") (by decide) rfl rfl (Nat.le_of_ble_eq_true rfl) (fun p e s m below meth c A ls C0 hw hl => ?_)
  have hx := C0.1
  have hb := C0.2.1
  have hl : lv_has ls 1 [(0, .ref (ad 3))] := hl
  unfold p_C_startDraft at h
  refine lv_aload_n hx hb d_C_startDraft_0 rfl (lv_at hl 0 rfl) ?_
  refine lv_aload_n hx hb d_C_startDraft_1 rfl (lv_at hl 0 rfl) ?_
  refine x_get C0 hw 3 rfl rfl i_C 8 (by decide) wm_118 rfl rfl d_C_startDraft_2 ?_
  refine x_put C0 hw 3 rfl rfl i_C tk_C n_C 11 (by decide) wm_126 rfl rfl rfl rfl (Nat.le_of_ble_eq_true rfl) (ws' := WB ad ca T_length T_bytes C_size C_given C_empty C_size C_draftedGiven C_block C_left C_right C_pivot C_positive C_negative C_live C_needed R_kind R_place R_at R_token R_tokenPlace R_number R_state R_block R_positive R_negative R_left R_right R_pivot L_of F_cut F_labelledA F_labelledB F_row A_root A_words A_known G_size G_variable G_low G_high G_numberOf G_nodeOf G_sides G_waiting B_table B_nextTable) rfl d_C_startDraft_5 (fun H locs hw => ?_)
  refine lv_aload_n hx hb d_C_startDraft_8 rfl (lv_at hl 0 rfl) ?_
  refine lv_aload_n hx hb d_C_startDraft_9 rfl (lv_at hl 0 rfl) ?_
  refine x_get C0 hw 3 rfl rfl i_C 9 (by decide) wm_120 rfl rfl d_C_startDraft_10 ?_
  refine x_put C0 hw 3 rfl rfl i_C tk_C n_C 12 (by decide) wm_127 rfl rfl rfl rfl (Nat.le_of_ble_eq_true rfl) (ws' := WB ad ca T_length T_bytes C_size C_given C_empty C_size C_given C_block C_left C_right C_pivot C_positive C_negative C_live C_needed R_kind R_place R_at R_token R_tokenPlace R_number R_state R_block R_positive R_negative R_left R_right R_pivot L_of F_cut F_labelledA F_labelledB F_row A_root A_words A_known G_size G_variable G_low G_high G_numberOf G_nodeOf G_sides G_waiting B_table B_nextTable) rfl d_C_startDraft_13 (fun H locs hw => ?_)
  exact x_vret C0 hw (C_size, C_given) h rfl d_C_startDraft_16
theorem g_C_hasRoom : GY y_C_hasRoom b_C_hasRoom 1 (some .boolean) 0 := ⟨wm_397, wm_55, by decide +kernel, by decide +kernel, by decide +kernel⟩
def p_C_hasRoom (C_drafted : Int32) (k : Int32 → Prop) : Prop :=
  (((200 : Int32) ≤ C_drafted → (k (0 : Int32))) ∧ (¬ (200 : Int32) ≤ C_drafted → (k (1 : Int32))))
abbrev rm_C_hasRoom : Room := { frames := 0, cells := 0, slots := 0, locals := 0 }
set_option maxHeartbeats 4000000 in
set_option maxRecDepth 100000 in
theorem c_C_hasRoom {l : Launch} {D : va_G} {ca : Nat → ClassId} {tp : Nat} {ad : Nat → Nat} {T_length : Int32} {T_bytes : Nat → Int32} {C_size : Int32} {C_given : Int32} {C_empty : Int32} {C_drafted : Int32} {C_draftedGiven : Int32} {C_block : Nat → Int32} {C_left : Nat → Int32} {C_right : Nat → Int32} {C_pivot : Nat → Int32} {C_positive : Nat → Int32} {C_negative : Nat → Int32} {C_live : Nat → Int32} {C_needed : Nat → Int32} {R_kind : Int32} {R_place : Int32} {R_at : Int32} {R_token : Int32} {R_tokenPlace : Int32} {R_number : Int32} {R_state : Int32} {R_block : Int32} {R_positive : Int32} {R_negative : Int32} {R_left : Int32} {R_right : Int32} {R_pivot : Int32} {L_of : Nat → Int32} {F_cut : Int32} {F_labelledA : Int32} {F_labelledB : Int32} {F_row : Nat → Int64} {A_root : Int32} {A_words : Nat → Int64} {A_known : Nat → Int32} {G_size : Int32} {G_variable : Nat → Int32} {G_low : Nat → Int32} {G_high : Nat → Int32} {G_numberOf : Nat → Int32} {G_nodeOf : Nat → Int32} {G_sides : Nat → Int32} {G_waiting : Nat → Int32} {B_table : Nat → Int64} {B_nextTable : Nat → Int64}  {k : Int32 → Prop} (h : p_C_hasRoom C_drafted k) :
    MTi l y_C_hasRoom b_C_hasRoom 1 (some .boolean) rm_C_hasRoom D ca tp [.ref (ad 3)] (WB ad ca T_length T_bytes C_size C_given C_empty C_drafted C_draftedGiven C_block C_left C_right C_pivot C_positive C_negative C_live C_needed R_kind R_place R_at R_token R_tokenPlace R_number R_state R_block R_positive R_negative R_left R_right R_pivot L_of F_cut F_labelledA F_labelledB F_row A_root A_words A_known G_size G_variable G_low G_high G_numberOf G_nodeOf G_sides G_waiting B_table B_nextTable)
      (fun r (_ : Unit) => k r)
      (fun (_ : Unit) => WB ad ca T_length T_bytes C_size C_given C_empty C_drafted C_draftedGiven C_block C_left C_right C_pivot C_positive C_negative C_live C_needed R_kind R_place R_at R_token R_tokenPlace R_number R_state R_block R_positive R_negative R_left R_right R_pivot L_of F_cut F_labelledA F_labelledB F_row A_root A_words A_known G_size G_variable G_low G_high G_numberOf G_nodeOf G_sides G_waiting B_table B_nextTable) 0 0 := by
  refine x_entryi (own := R_C) (nm := "hasRoom") (by decide) rfl rfl (Nat.le_of_ble_eq_true rfl) (fun p e s m below meth c A ls C0 hw hl => ?_)
  have hx := C0.1
  have hb := C0.2.1
  have hl : lv_has ls 1 [(0, .ref (ad 3))] := hl
  unfold p_C_hasRoom at h
  refine lv_aload_n hx hb d_C_hasRoom_0 rfl (lv_at hl 0 rfl) ?_
  refine x_get C0 hw 3 rfl rfl i_C 11 (by decide) wm_126 rfl rfl d_C_hasRoom_1 ?_
  refine lv_sipush (v := 200) hx hb d_C_hasRoom_4 (by decide) ?_
  refine lv_icmp_ge (tgt := 14) hx hb d_C_hasRoom_7 (by decide) (fun c_1 => ?_) (fun c_1 => ?_)
  · have h := h.1 c_1
    refine lv_iconst (v := 0) hx hb d_C_hasRoom_14 (by decide) ?_
    exact x_zret C0 hw rfl () h rfl d_C_hasRoom_15
  · have h := h.2 c_1
    refine lv_iconst (v := 1) hx hb d_C_hasRoom_10 (by decide) ?_
    refine lv_goto (tgt := 15) hx hb d_C_hasRoom_11 (by decide) ?_
    exact x_zret C0 hw rfl () h rfl d_C_hasRoom_15
theorem g_C_hasRoomForGiven : GY y_C_hasRoomForGiven b_C_hasRoomForGiven 1 (some .boolean) 0 := ⟨wm_393, wm_55, by decide +kernel, by decide +kernel, by decide +kernel⟩
def p_C_hasRoomForGiven (C_drafted : Int32) (C_draftedGiven : Int32) (k : Int32 → Prop) : Prop :=
  (p_C_hasRoom C_drafted (fun (r_1 : Int32) => ((r_1 = 0 → (k (0 : Int32))) ∧ (¬ r_1 = 0 → (((60 : Int32) ≤ C_draftedGiven → (k (0 : Int32))) ∧ (¬ (60 : Int32) ≤ C_draftedGiven → (k (1 : Int32))))))))
abbrev rm_C_hasRoomForGiven : Room := { frames := 1, cells := 0, slots := 0, locals := 20 }
set_option maxHeartbeats 4000000 in
set_option maxRecDepth 100000 in
theorem c_C_hasRoomForGiven {l : Launch} {D : va_G} {ca : Nat → ClassId} {tp : Nat} {ad : Nat → Nat} {T_length : Int32} {T_bytes : Nat → Int32} {C_size : Int32} {C_given : Int32} {C_empty : Int32} {C_drafted : Int32} {C_draftedGiven : Int32} {C_block : Nat → Int32} {C_left : Nat → Int32} {C_right : Nat → Int32} {C_pivot : Nat → Int32} {C_positive : Nat → Int32} {C_negative : Nat → Int32} {C_live : Nat → Int32} {C_needed : Nat → Int32} {R_kind : Int32} {R_place : Int32} {R_at : Int32} {R_token : Int32} {R_tokenPlace : Int32} {R_number : Int32} {R_state : Int32} {R_block : Int32} {R_positive : Int32} {R_negative : Int32} {R_left : Int32} {R_right : Int32} {R_pivot : Int32} {L_of : Nat → Int32} {F_cut : Int32} {F_labelledA : Int32} {F_labelledB : Int32} {F_row : Nat → Int64} {A_root : Int32} {A_words : Nat → Int64} {A_known : Nat → Int32} {G_size : Int32} {G_variable : Nat → Int32} {G_low : Nat → Int32} {G_high : Nat → Int32} {G_numberOf : Nat → Int32} {G_nodeOf : Nat → Int32} {G_sides : Nat → Int32} {G_waiting : Nat → Int32} {B_table : Nat → Int64} {B_nextTable : Nat → Int64}  {k : Int32 → Prop} (h : p_C_hasRoomForGiven C_drafted C_draftedGiven k) :
    MTi l y_C_hasRoomForGiven b_C_hasRoomForGiven 1 (some .boolean) rm_C_hasRoomForGiven D ca tp [.ref (ad 3)] (WB ad ca T_length T_bytes C_size C_given C_empty C_drafted C_draftedGiven C_block C_left C_right C_pivot C_positive C_negative C_live C_needed R_kind R_place R_at R_token R_tokenPlace R_number R_state R_block R_positive R_negative R_left R_right R_pivot L_of F_cut F_labelledA F_labelledB F_row A_root A_words A_known G_size G_variable G_low G_high G_numberOf G_nodeOf G_sides G_waiting B_table B_nextTable)
      (fun r (_ : Unit) => k r)
      (fun (_ : Unit) => WB ad ca T_length T_bytes C_size C_given C_empty C_drafted C_draftedGiven C_block C_left C_right C_pivot C_positive C_negative C_live C_needed R_kind R_place R_at R_token R_tokenPlace R_number R_state R_block R_positive R_negative R_left R_right R_pivot L_of F_cut F_labelledA F_labelledB F_row A_root A_words A_known G_size G_variable G_low G_high G_numberOf G_nodeOf G_sides G_waiting B_table B_nextTable) 0 0 := by
  refine x_entryi (own := R_C) (nm := "hasRoomForGiven") (by decide) rfl rfl (Nat.le_of_ble_eq_true rfl) (fun p e s m below meth c A ls C0 hw hl => ?_)
  have hx := C0.1
  have hb := C0.2.1
  have hl : lv_has ls 1 [(0, .ref (ad 3))] := hl
  unfold p_C_hasRoomForGiven at h
  refine lv_aload_n hx hb d_C_hasRoomForGiven_0 rfl (lv_at hl 0 rfl) ?_
  refine x_callVi C0 hw hl (c_C_hasRoom h) g_C_hasRoom wm_394 ⟨wm_396, wm_395⟩ 3 rfl rfl rfl (As := []) (rest := []) rfl rfl (Nat.le_of_ble_eq_true rfl) ⟨rfl, rfl⟩ ⟨Nat.le_of_ble_eq_true rfl, Nat.le_of_ble_eq_true rfl⟩ ⟨Nat.le_of_ble_eq_true rfl, Nat.le_of_ble_eq_true rfl⟩ d_C_hasRoomForGiven_1 (fun r_1 u H locs h hw => ?_)
  refine lv_if_eq (tgt := 20) hx hb d_C_hasRoomForGiven_4 (by decide) (fun c_2 => ?_) (fun c_2 => ?_)
  · have h := h.1 c_2
    refine lv_iconst (v := 0) hx hb d_C_hasRoomForGiven_20 (by decide) ?_
    exact x_zret C0 hw rfl () h rfl d_C_hasRoomForGiven_21
  · have h := h.2 c_2
    refine lv_aload_n hx hb d_C_hasRoomForGiven_7 rfl (lv_at hl 0 rfl) ?_
    refine x_get C0 hw 3 rfl rfl i_C 12 (by decide) wm_127 rfl rfl d_C_hasRoomForGiven_8 ?_
    refine lv_bipush (v := 60) hx hb d_C_hasRoomForGiven_11 (by decide) ?_
    refine lv_icmp_ge (tgt := 20) hx hb d_C_hasRoomForGiven_13 (by decide) (fun c_3 => ?_) (fun c_3 => ?_)
    · have h := h.1 c_3
      refine lv_iconst (v := 0) hx hb d_C_hasRoomForGiven_20 (by decide) ?_
      exact x_zret C0 hw rfl () h rfl d_C_hasRoomForGiven_21
    · have h := h.2 c_3
      refine lv_iconst (v := 1) hx hb d_C_hasRoomForGiven_16 (by decide) ?_
      refine lv_goto (tgt := 21) hx hb d_C_hasRoomForGiven_17 (by decide) ?_
      exact x_zret C0 hw rfl () h rfl d_C_hasRoomForGiven_21
theorem g_C_isDrafted : GY y_C_isDrafted b_C_isDrafted 2 (some .boolean) 1 := ⟨wm_439, wm_55, by decide +kernel, by decide +kernel, by decide +kernel⟩
def p_C_isDrafted (C_drafted : Int32) (x1 : Int32) (k : Int32 → Prop) : Prop :=
  ((x1 < (1 : Int32) → (k (0 : Int32))) ∧ (¬ x1 < (1 : Int32) → ((C_drafted < x1 → (k (0 : Int32))) ∧ (¬ C_drafted < x1 → (((200 : Int32) < x1 → (k (0 : Int32))) ∧ (¬ (200 : Int32) < x1 → (k (1 : Int32))))))))
abbrev rm_C_isDrafted : Room := { frames := 0, cells := 0, slots := 0, locals := 0 }
set_option maxHeartbeats 4000000 in
set_option maxRecDepth 100000 in
theorem c_C_isDrafted {l : Launch} {D : va_G} {ca : Nat → ClassId} {tp : Nat} {ad : Nat → Nat} {T_length : Int32} {T_bytes : Nat → Int32} {C_size : Int32} {C_given : Int32} {C_empty : Int32} {C_drafted : Int32} {C_draftedGiven : Int32} {C_block : Nat → Int32} {C_left : Nat → Int32} {C_right : Nat → Int32} {C_pivot : Nat → Int32} {C_positive : Nat → Int32} {C_negative : Nat → Int32} {C_live : Nat → Int32} {C_needed : Nat → Int32} {R_kind : Int32} {R_place : Int32} {R_at : Int32} {R_token : Int32} {R_tokenPlace : Int32} {R_number : Int32} {R_state : Int32} {R_block : Int32} {R_positive : Int32} {R_negative : Int32} {R_left : Int32} {R_right : Int32} {R_pivot : Int32} {L_of : Nat → Int32} {F_cut : Int32} {F_labelledA : Int32} {F_labelledB : Int32} {F_row : Nat → Int64} {A_root : Int32} {A_words : Nat → Int64} {A_known : Nat → Int32} {G_size : Int32} {G_variable : Nat → Int32} {G_low : Nat → Int32} {G_high : Nat → Int32} {G_numberOf : Nat → Int32} {G_nodeOf : Nat → Int32} {G_sides : Nat → Int32} {G_waiting : Nat → Int32} {B_table : Nat → Int64} {B_nextTable : Nat → Int64} {x1 : Int32} {k : Int32 → Prop} (h : p_C_isDrafted C_drafted x1 k) :
    MTi l y_C_isDrafted b_C_isDrafted 2 (some .boolean) rm_C_isDrafted D ca tp [.ref (ad 3), .int x1] (WB ad ca T_length T_bytes C_size C_given C_empty C_drafted C_draftedGiven C_block C_left C_right C_pivot C_positive C_negative C_live C_needed R_kind R_place R_at R_token R_tokenPlace R_number R_state R_block R_positive R_negative R_left R_right R_pivot L_of F_cut F_labelledA F_labelledB F_row A_root A_words A_known G_size G_variable G_low G_high G_numberOf G_nodeOf G_sides G_waiting B_table B_nextTable)
      (fun r (_ : Unit) => k r)
      (fun (_ : Unit) => WB ad ca T_length T_bytes C_size C_given C_empty C_drafted C_draftedGiven C_block C_left C_right C_pivot C_positive C_negative C_live C_needed R_kind R_place R_at R_token R_tokenPlace R_number R_state R_block R_positive R_negative R_left R_right R_pivot L_of F_cut F_labelledA F_labelledB F_row A_root A_words A_known G_size G_variable G_low G_high G_numberOf G_nodeOf G_sides G_waiting B_table B_nextTable) 0 0 := by
  refine x_entryi (own := R_C) (nm := "isDrafted") (by decide) rfl rfl (Nat.le_of_ble_eq_true rfl) (fun p e s m below meth c A ls C0 hw hl => ?_)
  have hx := C0.1
  have hb := C0.2.1
  have hl : lv_has ls 2 [(0, .ref (ad 3)), (1, .int x1)] := hl
  unfold p_C_isDrafted at h
  refine lv_iload_n hx hb d_C_isDrafted_0 rfl (lv_at hl 1 rfl) ?_
  refine lv_iconst (v := 1) hx hb d_C_isDrafted_1 (by decide) ?_
  refine lv_icmp_lt (tgt := 24) hx hb d_C_isDrafted_2 (by decide) (fun c_1 => ?_) (fun c_1 => ?_)
  · have h := h.1 c_1
    refine lv_iconst (v := 0) hx hb d_C_isDrafted_24 (by decide) ?_
    exact x_zret C0 hw rfl () h rfl d_C_isDrafted_25
  · have h := h.2 c_1
    refine lv_iload_n hx hb d_C_isDrafted_5 rfl (lv_at hl 1 rfl) ?_
    refine lv_aload_n hx hb d_C_isDrafted_6 rfl (lv_at hl 0 rfl) ?_
    refine x_get C0 hw 3 rfl rfl i_C 11 (by decide) wm_126 rfl rfl d_C_isDrafted_7 ?_
    refine lv_icmp_gt (tgt := 24) hx hb d_C_isDrafted_10 (by decide) (fun c_2 => ?_) (fun c_2 => ?_)
    · have h := h.1 c_2
      refine lv_iconst (v := 0) hx hb d_C_isDrafted_24 (by decide) ?_
      exact x_zret C0 hw rfl () h rfl d_C_isDrafted_25
    · have h := h.2 c_2
      refine lv_iload_n hx hb d_C_isDrafted_13 rfl (lv_at hl 1 rfl) ?_
      refine lv_sipush (v := 200) hx hb d_C_isDrafted_14 (by decide) ?_
      refine lv_icmp_gt (tgt := 24) hx hb d_C_isDrafted_17 (by decide) (fun c_3 => ?_) (fun c_3 => ?_)
      · have h := h.1 c_3
        refine lv_iconst (v := 0) hx hb d_C_isDrafted_24 (by decide) ?_
        exact x_zret C0 hw rfl () h rfl d_C_isDrafted_25
      · have h := h.2 c_3
        refine lv_iconst (v := 1) hx hb d_C_isDrafted_20 (by decide) ?_
        refine lv_goto (tgt := 25) hx hb d_C_isDrafted_21 (by decide) ?_
        exact x_zret C0 hw rfl () h rfl d_C_isDrafted_25
theorem g_C_isGivenOf : GY y_C_isGivenOf b_C_isGivenOf 4 (some .boolean) 3 := ⟨wm_564, wm_55, by decide +kernel, by decide +kernel, by decide +kernel⟩
def p_C_isGivenOf (C_block : Nat → Int32) (x1 : Int32) (x2 : Int32) (x3 : Int32) (k : Int32 → Prop) : Prop :=
  (vp_in x1 201 ∧ (((C_block x1.toNatClampNeg) = 0 → (k (0 : Int32))) ∧ (¬ (C_block x1.toNatClampNeg) = 0 → (((C_block x1.toNatClampNeg) < x2 → (k (0 : Int32))) ∧ (¬ (C_block x1.toNatClampNeg) < x2 → ((x3 < (C_block x1.toNatClampNeg) → (k (0 : Int32))) ∧ (¬ x3 < (C_block x1.toNatClampNeg) → (k (1 : Int32)))))))))
abbrev rm_C_isGivenOf : Room := { frames := 0, cells := 0, slots := 0, locals := 0 }
set_option maxHeartbeats 4000000 in
set_option maxRecDepth 100000 in
theorem c_C_isGivenOf {l : Launch} {D : va_G} {ca : Nat → ClassId} {tp : Nat} {ad : Nat → Nat} {T_length : Int32} {T_bytes : Nat → Int32} {C_size : Int32} {C_given : Int32} {C_empty : Int32} {C_drafted : Int32} {C_draftedGiven : Int32} {C_block : Nat → Int32} {C_left : Nat → Int32} {C_right : Nat → Int32} {C_pivot : Nat → Int32} {C_positive : Nat → Int32} {C_negative : Nat → Int32} {C_live : Nat → Int32} {C_needed : Nat → Int32} {R_kind : Int32} {R_place : Int32} {R_at : Int32} {R_token : Int32} {R_tokenPlace : Int32} {R_number : Int32} {R_state : Int32} {R_block : Int32} {R_positive : Int32} {R_negative : Int32} {R_left : Int32} {R_right : Int32} {R_pivot : Int32} {L_of : Nat → Int32} {F_cut : Int32} {F_labelledA : Int32} {F_labelledB : Int32} {F_row : Nat → Int64} {A_root : Int32} {A_words : Nat → Int64} {A_known : Nat → Int32} {G_size : Int32} {G_variable : Nat → Int32} {G_low : Nat → Int32} {G_high : Nat → Int32} {G_numberOf : Nat → Int32} {G_nodeOf : Nat → Int32} {G_sides : Nat → Int32} {G_waiting : Nat → Int32} {B_table : Nat → Int64} {B_nextTable : Nat → Int64} {x1 : Int32} {x2 : Int32} {x3 : Int32} {k : Int32 → Prop} (h : p_C_isGivenOf C_block x1 x2 x3 k) :
    MTi l y_C_isGivenOf b_C_isGivenOf 4 (some .boolean) rm_C_isGivenOf D ca tp [.ref (ad 3), .int x1, .int x2, .int x3] (WB ad ca T_length T_bytes C_size C_given C_empty C_drafted C_draftedGiven C_block C_left C_right C_pivot C_positive C_negative C_live C_needed R_kind R_place R_at R_token R_tokenPlace R_number R_state R_block R_positive R_negative R_left R_right R_pivot L_of F_cut F_labelledA F_labelledB F_row A_root A_words A_known G_size G_variable G_low G_high G_numberOf G_nodeOf G_sides G_waiting B_table B_nextTable)
      (fun r (_ : Unit) => k r)
      (fun (_ : Unit) => WB ad ca T_length T_bytes C_size C_given C_empty C_drafted C_draftedGiven C_block C_left C_right C_pivot C_positive C_negative C_live C_needed R_kind R_place R_at R_token R_tokenPlace R_number R_state R_block R_positive R_negative R_left R_right R_pivot L_of F_cut F_labelledA F_labelledB F_row A_root A_words A_known G_size G_variable G_low G_high G_numberOf G_nodeOf G_sides G_waiting B_table B_nextTable) 0 0 := by
  refine x_entryi (own := R_C) (nm := "isGivenOf") (by decide) rfl rfl (Nat.le_of_ble_eq_true rfl) (fun p e s m below meth c A ls C0 hw hl => ?_)
  have hx := C0.1
  have hb := C0.2.1
  have hl : lv_has ls 4 [(0, .ref (ad 3)), (1, .int x1), (2, .int x2), (3, .int x3)] := hl
  unfold p_C_isGivenOf at h
  refine lv_aload_n hx hb d_C_isGivenOf_0 rfl (lv_at hl 0 rfl) ?_
  refine x_get C0 hw 3 rfl rfl i_C 0 (by decide) wm_95 rfl rfl d_C_isGivenOf_1 ?_
  refine lv_iload_n hx hb d_C_isGivenOf_4 rfl (lv_at hl 1 rfl) ?_
  obtain ⟨hi_1, h⟩ := h
  refine x_iald C0 hw 4 rfl hi_1 d_C_isGivenOf_5 ?_
  refine lv_if_eq (tgt := 33) hx hb d_C_isGivenOf_6 (by decide) (fun c_2 => ?_) (fun c_2 => ?_)
  · have h := h.1 c_2
    refine lv_iconst (v := 0) hx hb d_C_isGivenOf_33 (by decide) ?_
    exact x_zret C0 hw rfl () h rfl d_C_isGivenOf_34
  · have h := h.2 c_2
    refine lv_aload_n hx hb d_C_isGivenOf_9 rfl (lv_at hl 0 rfl) ?_
    refine x_get C0 hw 3 rfl rfl i_C 0 (by decide) wm_95 rfl rfl d_C_isGivenOf_10 ?_
    refine lv_iload_n hx hb d_C_isGivenOf_13 rfl (lv_at hl 1 rfl) ?_
    refine x_iald C0 hw 4 rfl hi_1 d_C_isGivenOf_14 ?_
    refine lv_iload_n hx hb d_C_isGivenOf_15 rfl (lv_at hl 2 rfl) ?_
    refine lv_icmp_lt (tgt := 33) hx hb d_C_isGivenOf_16 (by decide) (fun c_3 => ?_) (fun c_3 => ?_)
    · have h := h.1 c_3
      refine lv_iconst (v := 0) hx hb d_C_isGivenOf_33 (by decide) ?_
      exact x_zret C0 hw rfl () h rfl d_C_isGivenOf_34
    · have h := h.2 c_3
      refine lv_aload_n hx hb d_C_isGivenOf_19 rfl (lv_at hl 0 rfl) ?_
      refine x_get C0 hw 3 rfl rfl i_C 0 (by decide) wm_95 rfl rfl d_C_isGivenOf_20 ?_
      refine lv_iload_n hx hb d_C_isGivenOf_23 rfl (lv_at hl 1 rfl) ?_
      refine x_iald C0 hw 4 rfl hi_1 d_C_isGivenOf_24 ?_
      refine lv_iload_n hx hb d_C_isGivenOf_25 rfl (lv_at hl 3 rfl) ?_
      refine lv_icmp_gt (tgt := 33) hx hb d_C_isGivenOf_26 (by decide) (fun c_4 => ?_) (fun c_4 => ?_)
      · have h := h.1 c_4
        refine lv_iconst (v := 0) hx hb d_C_isGivenOf_33 (by decide) ?_
        exact x_zret C0 hw rfl () h rfl d_C_isGivenOf_34
      · have h := h.2 c_4
        refine lv_iconst (v := 1) hx hb d_C_isGivenOf_29 (by decide) ?_
        refine lv_goto (tgt := 34) hx hb d_C_isGivenOf_30 (by decide) ?_
        exact x_zret C0 hw rfl () h rfl d_C_isGivenOf_34
theorem g_C_occurring : GY y_C_occurring b_C_occurring 5 (some .int) 2 := ⟨wm_560, wm_55, by decide +kernel, by decide +kernel, by decide +kernel⟩
def p_C_occurring_L5 (C_size : Int32) (C_block : Nat → Int32) (C_positive : Nat → Int32) (C_negative : Nat → Int32) (x1 : Int32) (x2 : Int32) (k : Int32 → Prop) : Nat → Int32 → Int32 → Prop
  | 0, _, _ => False
  | n + 1, x3, x4 =>
    ((C_size < x4 → (k x3)) ∧ (¬ C_size < x4 → (p_C_isGivenOf C_block x4 x1 x2 (fun (r_2 : Int32) => ((r_2 = 0 → (p_C_occurring_L5 C_size C_block C_positive C_negative x1 x2 k n x3 (x4 + 1))) ∧ (¬ r_2 = 0 → (vp_in x4 201 ∧ (∀ v3_5 : Int32, v3_5 = (x3 ||| ((C_positive x4.toNatClampNeg) ||| (C_negative x4.toNatClampNeg))) → (p_C_occurring_L5 C_size C_block C_positive C_negative x1 x2 k n v3_5 (x4 + 1))))))))))
def p_C_occurring (C_size : Int32) (C_block : Nat → Int32) (C_positive : Nat → Int32) (C_negative : Nat → Int32) (x1 : Int32) (x2 : Int32) (k : Int32 → Prop) : Prop :=
  (∃ j_6, p_C_occurring_L5 C_size C_block C_positive C_negative x1 x2 k j_6 (0 : Int32) (1 : Int32))
abbrev rm_C_occurring : Room := { frames := 1, cells := 0, slots := 0, locals := 23 }
set_option maxHeartbeats 4000000 in
set_option maxRecDepth 100000 in
theorem b_C_occurring_L5 {p : Program} {l : Launch} {e : Env} {s : State} {m : MethodId} {args : Array Value} {below : List Frame} {meth : Method} {c : Code} {D : va_G} {ca : Nat → ClassId} {tp : Nat} {A : Nat → Prop} {ad : Nat → Nat} {T_length : Int32} {T_bytes : Nat → Int32} {C_size : Int32} {C_given : Int32} {C_empty : Int32} {C_drafted : Int32} {C_draftedGiven : Int32} {C_block : Nat → Int32} {C_left : Nat → Int32} {C_right : Nat → Int32} {C_pivot : Nat → Int32} {C_positive : Nat → Int32} {C_negative : Nat → Int32} {C_live : Nat → Int32} {C_needed : Nat → Int32} {R_kind : Int32} {R_place : Int32} {R_at : Int32} {R_token : Int32} {R_tokenPlace : Int32} {R_number : Int32} {R_state : Int32} {R_block : Int32} {R_positive : Int32} {R_negative : Int32} {R_left : Int32} {R_right : Int32} {R_pivot : Int32} {L_of : Nat → Int32} {F_cut : Int32} {F_labelledA : Int32} {F_labelledB : Int32} {F_row : Nat → Int64} {A_root : Int32} {A_words : Nat → Int64} {A_known : Nat → Int32} {G_size : Int32} {G_variable : Nat → Int32} {G_low : Nat → Int32} {G_high : Nat → Int32} {G_numberOf : Nat → Int32} {G_nodeOf : Nat → Int32} {G_sides : Nat → Int32} {G_waiting : Nat → Int32} {B_table : Nat → Int64} {B_nextTable : Nat → Int64} {x1 : Int32} {x2 : Int32} {k : Int32 → Prop}  (C0 : CX p s m args meth c b_C_occurring 5 (some .int) R_C "occurring" D ca tp A) :
    ∀ (n : Nat) (x3 : Int32) (x4 : Int32) {H : Heap} {locs : List Loc} {ls : Array Slot}, p_C_occurring_L5 C_size C_block C_positive C_negative x1 x2 k n x3 x4 → WH D A s (WB ad ca T_length T_bytes C_size C_given C_empty C_drafted C_draftedGiven C_block C_left C_right C_pivot C_positive C_negative C_live C_needed R_kind R_place R_at R_token R_tokenPlace R_number R_state R_block R_positive R_negative R_left R_right R_pivot L_of F_cut F_labelledA F_labelledB F_row A_root A_words A_known G_size G_variable G_low G_high G_numberOf G_nodeOf G_sides G_waiting B_table B_nextTable) H locs → lv_has ls 5 [(0, .ref (ad 3)), (1, .int x1), (2, .int x2), (3, .int x3), (4, .int x4)] →
      W p l e rm_C_occurring s m args below meth c H locs 0 0 (QI D A below args s (fun r (_ : Unit) => k r) (fun (_ : Unit) => WB ad ca T_length T_bytes C_size C_given C_empty C_drafted C_draftedGiven C_block C_left C_right C_pivot C_positive C_negative C_live C_needed R_kind R_place R_at R_token R_tokenPlace R_number R_state R_block R_positive R_negative R_left R_right R_pivot L_of F_cut F_labelledA F_labelledB F_row A_root A_words A_known G_size G_variable G_low G_high G_numberOf G_nodeOf G_sides G_waiting B_table B_nextTable) 0 0) (F0 m 5 ls []) := by
  have hx := C0.1
  have hb := C0.2.1
  intro n
  induction n with
  | zero =>
    intro x3 x4 H locs ls h
    exact False.elim h
  | succ n ih =>
    intro x3 x4 H locs ls h hw hl
    unfold p_C_occurring_L5 at h
    refine lv_iload hx hb d_C_occurring_5 (lv_at hl 4 rfl) ?_
    refine lv_aload_n hx hb d_C_occurring_7 rfl (lv_at hl 0 rfl) ?_
    refine x_get C0 hw 3 rfl rfl i_C 8 (by decide) wm_118 rfl rfl d_C_occurring_8 ?_
    refine lv_icmp_gt (tgt := 49) hx hb d_C_occurring_11 (by decide) (fun c_1 => ?_) (fun c_1 => ?_)
    · have h := h.1 c_1
      refine lv_iload_n hx hb d_C_occurring_49 rfl (lv_at hl 3 rfl) ?_
      exact x_iret C0 hw () h rfl d_C_occurring_50
    · have h := h.2 c_1
      refine lv_aload_n hx hb d_C_occurring_14 rfl (lv_at hl 0 rfl) ?_
      refine lv_iload hx hb d_C_occurring_15 (lv_at hl 4 rfl) ?_
      refine lv_iload_n hx hb d_C_occurring_17 rfl (lv_at hl 1 rfl) ?_
      refine lv_iload_n hx hb d_C_occurring_18 rfl (lv_at hl 2 rfl) ?_
      refine x_callVi C0 hw hl (c_C_isGivenOf h) g_C_isGivenOf wm_561 ⟨wm_24, wm_563⟩ 3 rfl rfl rfl (As := [.int x4, .int x1, .int x2]) (rest := []) rfl rfl (Nat.le_of_ble_eq_true rfl) ⟨rfl, rfl⟩ ⟨Nat.le_of_ble_eq_true rfl, Nat.le_of_ble_eq_true rfl⟩ ⟨Nat.le_of_ble_eq_true rfl, Nat.le_of_ble_eq_true rfl⟩ d_C_occurring_19 (fun r_2 u H locs h hw => ?_)
      refine lv_if_eq (tgt := 43) hx hb d_C_occurring_22 (by decide) (fun c_3 => ?_) (fun c_3 => ?_)
      · have h := h.1 c_3
        refine lv_iinc (v := (x4 + 1)) (lv' := [(4, .int (x4 + 1)), (0, .ref (ad 3)), (1, .int x1), (2, .int x2), (3, .int x3)]) hx hb d_C_occurring_43 hl (k := 4) rfl rfl (by decide) rfl (fun ls hl => ?_)
        refine lv_goto (tgt := 5) hx hb d_C_occurring_46 (by decide) ?_
        exact ih _ _ h hw (lv_sub hl [1, 2, 3, 4, 0] rfl)
      · have h := h.2 c_3
        refine lv_iload_n hx hb d_C_occurring_25 rfl (lv_at hl 3 rfl) ?_
        refine lv_aload_n hx hb d_C_occurring_26 rfl (lv_at hl 0 rfl) ?_
        refine x_get C0 hw 3 rfl rfl i_C 4 (by decide) wm_107 rfl rfl d_C_occurring_27 ?_
        refine lv_iload hx hb d_C_occurring_30 (lv_at hl 4 rfl) ?_
        obtain ⟨hi_4, h⟩ := h
        refine x_iald C0 hw 8 rfl hi_4 d_C_occurring_32 ?_
        refine lv_aload_n hx hb d_C_occurring_33 rfl (lv_at hl 0 rfl) ?_
        refine x_get C0 hw 3 rfl rfl i_C 5 (by decide) wm_110 rfl rfl d_C_occurring_34 ?_
        refine lv_iload hx hb d_C_occurring_37 (lv_at hl 4 rfl) ?_
        refine x_iald C0 hw 9 rfl hi_4 d_C_occurring_39 ?_
        refine lv_ior hx hb d_C_occurring_40 ?_
        refine lv_ior hx hb d_C_occurring_41 ?_
        refine lv_topi (fun v3_5 e_v3_5 => ?_)
        have h := h v3_5 e_v3_5
        refine lv_istore_n (lv' := [(3, .int v3_5), (0, .ref (ad 3)), (1, .int x1), (2, .int x2), (4, .int x4)]) hx hb d_C_occurring_42 rfl hl (by decide) rfl (fun ls hl => ?_)
        refine lv_iinc (v := (x4 + 1)) (lv' := [(4, .int (x4 + 1)), (3, .int v3_5), (0, .ref (ad 3)), (1, .int x1), (2, .int x2)]) hx hb d_C_occurring_43 hl (k := 4) rfl rfl (by decide) rfl (fun ls hl => ?_)
        refine lv_goto (tgt := 5) hx hb d_C_occurring_46 (by decide) ?_
        exact ih _ _ h hw (lv_sub hl [2, 3, 4, 1, 0] rfl)
set_option maxHeartbeats 4000000 in
set_option maxRecDepth 100000 in
theorem c_C_occurring {l : Launch} {D : va_G} {ca : Nat → ClassId} {tp : Nat} {ad : Nat → Nat} {T_length : Int32} {T_bytes : Nat → Int32} {C_size : Int32} {C_given : Int32} {C_empty : Int32} {C_drafted : Int32} {C_draftedGiven : Int32} {C_block : Nat → Int32} {C_left : Nat → Int32} {C_right : Nat → Int32} {C_pivot : Nat → Int32} {C_positive : Nat → Int32} {C_negative : Nat → Int32} {C_live : Nat → Int32} {C_needed : Nat → Int32} {R_kind : Int32} {R_place : Int32} {R_at : Int32} {R_token : Int32} {R_tokenPlace : Int32} {R_number : Int32} {R_state : Int32} {R_block : Int32} {R_positive : Int32} {R_negative : Int32} {R_left : Int32} {R_right : Int32} {R_pivot : Int32} {L_of : Nat → Int32} {F_cut : Int32} {F_labelledA : Int32} {F_labelledB : Int32} {F_row : Nat → Int64} {A_root : Int32} {A_words : Nat → Int64} {A_known : Nat → Int32} {G_size : Int32} {G_variable : Nat → Int32} {G_low : Nat → Int32} {G_high : Nat → Int32} {G_numberOf : Nat → Int32} {G_nodeOf : Nat → Int32} {G_sides : Nat → Int32} {G_waiting : Nat → Int32} {B_table : Nat → Int64} {B_nextTable : Nat → Int64} {x1 : Int32} {x2 : Int32} {k : Int32 → Prop} (h : p_C_occurring C_size C_block C_positive C_negative x1 x2 k) :
    MTi l y_C_occurring b_C_occurring 5 (some .int) rm_C_occurring D ca tp [.ref (ad 3), .int x1, .int x2] (WB ad ca T_length T_bytes C_size C_given C_empty C_drafted C_draftedGiven C_block C_left C_right C_pivot C_positive C_negative C_live C_needed R_kind R_place R_at R_token R_tokenPlace R_number R_state R_block R_positive R_negative R_left R_right R_pivot L_of F_cut F_labelledA F_labelledB F_row A_root A_words A_known G_size G_variable G_low G_high G_numberOf G_nodeOf G_sides G_waiting B_table B_nextTable)
      (fun r (_ : Unit) => k r)
      (fun (_ : Unit) => WB ad ca T_length T_bytes C_size C_given C_empty C_drafted C_draftedGiven C_block C_left C_right C_pivot C_positive C_negative C_live C_needed R_kind R_place R_at R_token R_tokenPlace R_number R_state R_block R_positive R_negative R_left R_right R_pivot L_of F_cut F_labelledA F_labelledB F_row A_root A_words A_known G_size G_variable G_low G_high G_numberOf G_nodeOf G_sides G_waiting B_table B_nextTable) 0 0 := by
  refine x_entryi (own := R_C) (nm := "occurring") (by decide) rfl rfl (Nat.le_of_ble_eq_true rfl) (fun p e s m below meth c A ls C0 hw hl => ?_)
  have hx := C0.1
  have hb := C0.2.1
  have hl : lv_has ls 5 [(0, .ref (ad 3)), (1, .int x1), (2, .int x2)] := hl
  unfold p_C_occurring at h
  refine lv_iconst (v := 0) hx hb d_C_occurring_0 (by decide) ?_
  refine lv_istore_n (lv' := [(3, .int (0 : Int32)), (0, .ref (ad 3)), (1, .int x1), (2, .int x2)]) hx hb d_C_occurring_1 rfl hl (by decide) rfl (fun ls hl => ?_)
  refine lv_iconst (v := 1) hx hb d_C_occurring_2 (by decide) ?_
  refine lv_istore (lv' := [(4, .int (1 : Int32)), (3, .int (0 : Int32)), (0, .ref (ad 3)), (1, .int x1), (2, .int x2)]) hx hb d_C_occurring_3 hl (by decide) rfl (fun ls hl => ?_)
  obtain ⟨j_6, h⟩ := h
  refine b_C_occurring_L5 C0 _ _ _ h hw (lv_sub hl [2, 3, 4, 1, 0] rfl)
theorem g_C_positiveRest : GY y_C_positiveRest b_C_positiveRest 4 (some .int) 3 := ⟨wm_465, wm_55, by decide +kernel, by decide +kernel, by decide +kernel⟩
def p_C_positiveRest (C_positive : Nat → Int32) (x1 : Int32) (x2 : Int32) (x3 : Int32) (k : Int32 → Prop) : Prop :=
  (vp_in x1 201 ∧ (vp_in x2 201 ∧ (p_B_bitOf x3 (fun (r_3 : Int32) => (k (((C_positive x1.toNatClampNeg) ||| (C_positive x2.toNatClampNeg)) &&& (r_3 ^^^ (-1 : Int32))))))))
abbrev rm_C_positiveRest : Room := { frames := 1, cells := 0, slots := 0, locals := 20 }
set_option maxHeartbeats 4000000 in
set_option maxRecDepth 100000 in
theorem c_C_positiveRest {l : Launch} {D : va_G} {ca : Nat → ClassId} {tp : Nat} {ad : Nat → Nat} {T_length : Int32} {T_bytes : Nat → Int32} {C_size : Int32} {C_given : Int32} {C_empty : Int32} {C_drafted : Int32} {C_draftedGiven : Int32} {C_block : Nat → Int32} {C_left : Nat → Int32} {C_right : Nat → Int32} {C_pivot : Nat → Int32} {C_positive : Nat → Int32} {C_negative : Nat → Int32} {C_live : Nat → Int32} {C_needed : Nat → Int32} {R_kind : Int32} {R_place : Int32} {R_at : Int32} {R_token : Int32} {R_tokenPlace : Int32} {R_number : Int32} {R_state : Int32} {R_block : Int32} {R_positive : Int32} {R_negative : Int32} {R_left : Int32} {R_right : Int32} {R_pivot : Int32} {L_of : Nat → Int32} {F_cut : Int32} {F_labelledA : Int32} {F_labelledB : Int32} {F_row : Nat → Int64} {A_root : Int32} {A_words : Nat → Int64} {A_known : Nat → Int32} {G_size : Int32} {G_variable : Nat → Int32} {G_low : Nat → Int32} {G_high : Nat → Int32} {G_numberOf : Nat → Int32} {G_nodeOf : Nat → Int32} {G_sides : Nat → Int32} {G_waiting : Nat → Int32} {B_table : Nat → Int64} {B_nextTable : Nat → Int64} {x1 : Int32} {x2 : Int32} {x3 : Int32} {k : Int32 → Prop} (h : p_C_positiveRest C_positive x1 x2 x3 k) :
    MTi l y_C_positiveRest b_C_positiveRest 4 (some .int) rm_C_positiveRest D ca tp [.ref (ad 3), .int x1, .int x2, .int x3] (WB ad ca T_length T_bytes C_size C_given C_empty C_drafted C_draftedGiven C_block C_left C_right C_pivot C_positive C_negative C_live C_needed R_kind R_place R_at R_token R_tokenPlace R_number R_state R_block R_positive R_negative R_left R_right R_pivot L_of F_cut F_labelledA F_labelledB F_row A_root A_words A_known G_size G_variable G_low G_high G_numberOf G_nodeOf G_sides G_waiting B_table B_nextTable)
      (fun r (_ : Unit) => k r)
      (fun (_ : Unit) => WB ad ca T_length T_bytes C_size C_given C_empty C_drafted C_draftedGiven C_block C_left C_right C_pivot C_positive C_negative C_live C_needed R_kind R_place R_at R_token R_tokenPlace R_number R_state R_block R_positive R_negative R_left R_right R_pivot L_of F_cut F_labelledA F_labelledB F_row A_root A_words A_known G_size G_variable G_low G_high G_numberOf G_nodeOf G_sides G_waiting B_table B_nextTable) 0 0 := by
  refine x_entryi (own := R_C) (nm := "positiveRest") (by decide) rfl rfl (Nat.le_of_ble_eq_true rfl) (fun p e s m below meth c A ls C0 hw hl => ?_)
  have hx := C0.1
  have hb := C0.2.1
  have hl : lv_has ls 4 [(0, .ref (ad 3)), (1, .int x1), (2, .int x2), (3, .int x3)] := hl
  unfold p_C_positiveRest at h
  refine lv_aload_n hx hb d_C_positiveRest_0 rfl (lv_at hl 0 rfl) ?_
  refine x_get C0 hw 3 rfl rfl i_C 4 (by decide) wm_107 rfl rfl d_C_positiveRest_1 ?_
  refine lv_iload_n hx hb d_C_positiveRest_4 rfl (lv_at hl 1 rfl) ?_
  obtain ⟨hi_1, h⟩ := h
  refine x_iald C0 hw 8 rfl hi_1 d_C_positiveRest_5 ?_
  refine lv_aload_n hx hb d_C_positiveRest_6 rfl (lv_at hl 0 rfl) ?_
  refine x_get C0 hw 3 rfl rfl i_C 4 (by decide) wm_107 rfl rfl d_C_positiveRest_7 ?_
  refine lv_iload_n hx hb d_C_positiveRest_10 rfl (lv_at hl 2 rfl) ?_
  obtain ⟨hi_2, h⟩ := h
  refine x_iald C0 hw 8 rfl hi_2 d_C_positiveRest_11 ?_
  refine lv_ior hx hb d_C_positiveRest_12 ?_
  refine lv_iload_n hx hb d_C_positiveRest_13 rfl (lv_at hl 3 rfl) ?_
  refine x_callSNi C0 hw hl (c_B_bitOf h) g_B_bitOf wm_455 wm_456 (As := [.int x3]) (rest := [.int ((C_positive x1.toNatClampNeg) ||| (C_positive x2.toNatClampNeg))]) rfl rfl (Nat.le_of_ble_eq_true rfl) ⟨rfl, rfl⟩ ⟨Nat.le_of_ble_eq_true rfl, Nat.le_of_ble_eq_true rfl⟩ ⟨Nat.le_of_ble_eq_true rfl, Nat.le_of_ble_eq_true rfl⟩ d_C_positiveRest_14 (fun r_3 u H locs h hw => ?_)
  refine lv_iconst (v := -1) hx hb d_C_positiveRest_17 (by decide) ?_
  refine lv_ixor hx hb d_C_positiveRest_18 ?_
  refine lv_iand hx hb d_C_positiveRest_19 ?_
  exact x_iret C0 hw () h rfl d_C_positiveRest_20
theorem g_C_negativeRest : GY y_C_negativeRest b_C_negativeRest 4 (some .int) 3 := ⟨wm_469, wm_55, by decide +kernel, by decide +kernel, by decide +kernel⟩
def p_C_negativeRest (C_negative : Nat → Int32) (x1 : Int32) (x2 : Int32) (x3 : Int32) (k : Int32 → Prop) : Prop :=
  (vp_in x1 201 ∧ (vp_in x2 201 ∧ (p_B_bitOf x3 (fun (r_3 : Int32) => (k (((C_negative x1.toNatClampNeg) ||| (C_negative x2.toNatClampNeg)) &&& (r_3 ^^^ (-1 : Int32))))))))
abbrev rm_C_negativeRest : Room := { frames := 1, cells := 0, slots := 0, locals := 20 }
set_option maxHeartbeats 4000000 in
set_option maxRecDepth 100000 in
theorem c_C_negativeRest {l : Launch} {D : va_G} {ca : Nat → ClassId} {tp : Nat} {ad : Nat → Nat} {T_length : Int32} {T_bytes : Nat → Int32} {C_size : Int32} {C_given : Int32} {C_empty : Int32} {C_drafted : Int32} {C_draftedGiven : Int32} {C_block : Nat → Int32} {C_left : Nat → Int32} {C_right : Nat → Int32} {C_pivot : Nat → Int32} {C_positive : Nat → Int32} {C_negative : Nat → Int32} {C_live : Nat → Int32} {C_needed : Nat → Int32} {R_kind : Int32} {R_place : Int32} {R_at : Int32} {R_token : Int32} {R_tokenPlace : Int32} {R_number : Int32} {R_state : Int32} {R_block : Int32} {R_positive : Int32} {R_negative : Int32} {R_left : Int32} {R_right : Int32} {R_pivot : Int32} {L_of : Nat → Int32} {F_cut : Int32} {F_labelledA : Int32} {F_labelledB : Int32} {F_row : Nat → Int64} {A_root : Int32} {A_words : Nat → Int64} {A_known : Nat → Int32} {G_size : Int32} {G_variable : Nat → Int32} {G_low : Nat → Int32} {G_high : Nat → Int32} {G_numberOf : Nat → Int32} {G_nodeOf : Nat → Int32} {G_sides : Nat → Int32} {G_waiting : Nat → Int32} {B_table : Nat → Int64} {B_nextTable : Nat → Int64} {x1 : Int32} {x2 : Int32} {x3 : Int32} {k : Int32 → Prop} (h : p_C_negativeRest C_negative x1 x2 x3 k) :
    MTi l y_C_negativeRest b_C_negativeRest 4 (some .int) rm_C_negativeRest D ca tp [.ref (ad 3), .int x1, .int x2, .int x3] (WB ad ca T_length T_bytes C_size C_given C_empty C_drafted C_draftedGiven C_block C_left C_right C_pivot C_positive C_negative C_live C_needed R_kind R_place R_at R_token R_tokenPlace R_number R_state R_block R_positive R_negative R_left R_right R_pivot L_of F_cut F_labelledA F_labelledB F_row A_root A_words A_known G_size G_variable G_low G_high G_numberOf G_nodeOf G_sides G_waiting B_table B_nextTable)
      (fun r (_ : Unit) => k r)
      (fun (_ : Unit) => WB ad ca T_length T_bytes C_size C_given C_empty C_drafted C_draftedGiven C_block C_left C_right C_pivot C_positive C_negative C_live C_needed R_kind R_place R_at R_token R_tokenPlace R_number R_state R_block R_positive R_negative R_left R_right R_pivot L_of F_cut F_labelledA F_labelledB F_row A_root A_words A_known G_size G_variable G_low G_high G_numberOf G_nodeOf G_sides G_waiting B_table B_nextTable) 0 0 := by
  refine x_entryi (own := R_C) (nm := "negativeRest") (by decide) rfl rfl (Nat.le_of_ble_eq_true rfl) (fun p e s m below meth c A ls C0 hw hl => ?_)
  have hx := C0.1
  have hb := C0.2.1
  have hl : lv_has ls 4 [(0, .ref (ad 3)), (1, .int x1), (2, .int x2), (3, .int x3)] := hl
  unfold p_C_negativeRest at h
  refine lv_aload_n hx hb d_C_negativeRest_0 rfl (lv_at hl 0 rfl) ?_
  refine x_get C0 hw 3 rfl rfl i_C 5 (by decide) wm_110 rfl rfl d_C_negativeRest_1 ?_
  refine lv_iload_n hx hb d_C_negativeRest_4 rfl (lv_at hl 1 rfl) ?_
  obtain ⟨hi_1, h⟩ := h
  refine x_iald C0 hw 9 rfl hi_1 d_C_negativeRest_5 ?_
  refine lv_aload_n hx hb d_C_negativeRest_6 rfl (lv_at hl 0 rfl) ?_
  refine x_get C0 hw 3 rfl rfl i_C 5 (by decide) wm_110 rfl rfl d_C_negativeRest_7 ?_
  refine lv_iload_n hx hb d_C_negativeRest_10 rfl (lv_at hl 2 rfl) ?_
  obtain ⟨hi_2, h⟩ := h
  refine x_iald C0 hw 9 rfl hi_2 d_C_negativeRest_11 ?_
  refine lv_ior hx hb d_C_negativeRest_12 ?_
  refine lv_iload_n hx hb d_C_negativeRest_13 rfl (lv_at hl 3 rfl) ?_
  refine x_callSNi C0 hw hl (c_B_bitOf h) g_B_bitOf wm_455 wm_456 (As := [.int x3]) (rest := [.int ((C_negative x1.toNatClampNeg) ||| (C_negative x2.toNatClampNeg))]) rfl rfl (Nat.le_of_ble_eq_true rfl) ⟨rfl, rfl⟩ ⟨Nat.le_of_ble_eq_true rfl, Nat.le_of_ble_eq_true rfl⟩ ⟨Nat.le_of_ble_eq_true rfl, Nat.le_of_ble_eq_true rfl⟩ d_C_negativeRest_14 (fun r_3 u H locs h hw => ?_)
  refine lv_iconst (v := -1) hx hb d_C_negativeRest_17 (by decide) ?_
  refine lv_ixor hx hb d_C_negativeRest_18 ?_
  refine lv_iand hx hb d_C_negativeRest_19 ?_
  exact x_iret C0 hw () h rfl d_C_negativeRest_20
theorem g_C_resolves : GY y_C_resolves b_C_resolves 4 (some .boolean) 3 := ⟨wm_454, wm_55, by decide +kernel, by decide +kernel, by decide +kernel⟩
def p_C_resolves (C_positive : Nat → Int32) (C_negative : Nat → Int32) (x1 : Int32) (x2 : Int32) (x3 : Int32) (k : Int32 → Prop) : Prop :=
  (vp_in x1 201 ∧ (p_B_bitOf x3 (fun (r_2 : Int32) => ((((C_positive x1.toNatClampNeg) &&& r_2) = 0 → (k (0 : Int32))) ∧ (¬ ((C_positive x1.toNatClampNeg) &&& r_2) = 0 → (vp_in x2 201 ∧ (p_B_bitOf x3 (fun (r_5 : Int32) => ((((C_negative x2.toNatClampNeg) &&& r_5) = 0 → (k (0 : Int32))) ∧ (¬ ((C_negative x2.toNatClampNeg) &&& r_5) = 0 → (k (1 : Int32))))))))))))
abbrev rm_C_resolves : Room := { frames := 1, cells := 0, slots := 0, locals := 20 }
set_option maxHeartbeats 4000000 in
set_option maxRecDepth 100000 in
theorem c_C_resolves {l : Launch} {D : va_G} {ca : Nat → ClassId} {tp : Nat} {ad : Nat → Nat} {T_length : Int32} {T_bytes : Nat → Int32} {C_size : Int32} {C_given : Int32} {C_empty : Int32} {C_drafted : Int32} {C_draftedGiven : Int32} {C_block : Nat → Int32} {C_left : Nat → Int32} {C_right : Nat → Int32} {C_pivot : Nat → Int32} {C_positive : Nat → Int32} {C_negative : Nat → Int32} {C_live : Nat → Int32} {C_needed : Nat → Int32} {R_kind : Int32} {R_place : Int32} {R_at : Int32} {R_token : Int32} {R_tokenPlace : Int32} {R_number : Int32} {R_state : Int32} {R_block : Int32} {R_positive : Int32} {R_negative : Int32} {R_left : Int32} {R_right : Int32} {R_pivot : Int32} {L_of : Nat → Int32} {F_cut : Int32} {F_labelledA : Int32} {F_labelledB : Int32} {F_row : Nat → Int64} {A_root : Int32} {A_words : Nat → Int64} {A_known : Nat → Int32} {G_size : Int32} {G_variable : Nat → Int32} {G_low : Nat → Int32} {G_high : Nat → Int32} {G_numberOf : Nat → Int32} {G_nodeOf : Nat → Int32} {G_sides : Nat → Int32} {G_waiting : Nat → Int32} {B_table : Nat → Int64} {B_nextTable : Nat → Int64} {x1 : Int32} {x2 : Int32} {x3 : Int32} {k : Int32 → Prop} (h : p_C_resolves C_positive C_negative x1 x2 x3 k) :
    MTi l y_C_resolves b_C_resolves 4 (some .boolean) rm_C_resolves D ca tp [.ref (ad 3), .int x1, .int x2, .int x3] (WB ad ca T_length T_bytes C_size C_given C_empty C_drafted C_draftedGiven C_block C_left C_right C_pivot C_positive C_negative C_live C_needed R_kind R_place R_at R_token R_tokenPlace R_number R_state R_block R_positive R_negative R_left R_right R_pivot L_of F_cut F_labelledA F_labelledB F_row A_root A_words A_known G_size G_variable G_low G_high G_numberOf G_nodeOf G_sides G_waiting B_table B_nextTable)
      (fun r (_ : Unit) => k r)
      (fun (_ : Unit) => WB ad ca T_length T_bytes C_size C_given C_empty C_drafted C_draftedGiven C_block C_left C_right C_pivot C_positive C_negative C_live C_needed R_kind R_place R_at R_token R_tokenPlace R_number R_state R_block R_positive R_negative R_left R_right R_pivot L_of F_cut F_labelledA F_labelledB F_row A_root A_words A_known G_size G_variable G_low G_high G_numberOf G_nodeOf G_sides G_waiting B_table B_nextTable) 0 0 := by
  refine x_entryi (own := R_C) (nm := "resolves") (by decide) rfl rfl (Nat.le_of_ble_eq_true rfl) (fun p e s m below meth c A ls C0 hw hl => ?_)
  have hx := C0.1
  have hb := C0.2.1
  have hl : lv_has ls 4 [(0, .ref (ad 3)), (1, .int x1), (2, .int x2), (3, .int x3)] := hl
  unfold p_C_resolves at h
  refine lv_aload_n hx hb d_C_resolves_0 rfl (lv_at hl 0 rfl) ?_
  refine x_get C0 hw 3 rfl rfl i_C 4 (by decide) wm_107 rfl rfl d_C_resolves_1 ?_
  refine lv_iload_n hx hb d_C_resolves_4 rfl (lv_at hl 1 rfl) ?_
  obtain ⟨hi_1, h⟩ := h
  refine x_iald C0 hw 8 rfl hi_1 d_C_resolves_5 ?_
  refine lv_iload_n hx hb d_C_resolves_6 rfl (lv_at hl 3 rfl) ?_
  refine x_callSNi C0 hw hl (c_B_bitOf h) g_B_bitOf wm_455 wm_456 (As := [.int x3]) (rest := [.int (C_positive x1.toNatClampNeg)]) rfl rfl (Nat.le_of_ble_eq_true rfl) ⟨rfl, rfl⟩ ⟨Nat.le_of_ble_eq_true rfl, Nat.le_of_ble_eq_true rfl⟩ ⟨Nat.le_of_ble_eq_true rfl, Nat.le_of_ble_eq_true rfl⟩ d_C_resolves_7 (fun r_2 u H locs h hw => ?_)
  refine lv_iand hx hb d_C_resolves_10 ?_
  refine lv_if_eq (tgt := 32) hx hb d_C_resolves_11 (by decide) (fun c_3 => ?_) (fun c_3 => ?_)
  · have h := h.1 c_3
    refine lv_iconst (v := 0) hx hb d_C_resolves_32 (by decide) ?_
    exact x_zret C0 hw rfl () h rfl d_C_resolves_33
  · have h := h.2 c_3
    refine lv_aload_n hx hb d_C_resolves_14 rfl (lv_at hl 0 rfl) ?_
    refine x_get C0 hw 3 rfl rfl i_C 5 (by decide) wm_110 rfl rfl d_C_resolves_15 ?_
    refine lv_iload_n hx hb d_C_resolves_18 rfl (lv_at hl 2 rfl) ?_
    obtain ⟨hi_4, h⟩ := h
    refine x_iald C0 hw 9 rfl hi_4 d_C_resolves_19 ?_
    refine lv_iload_n hx hb d_C_resolves_20 rfl (lv_at hl 3 rfl) ?_
    refine x_callSNi C0 hw hl (c_B_bitOf h) g_B_bitOf wm_455 wm_456 (As := [.int x3]) (rest := [.int (C_negative x2.toNatClampNeg)]) rfl rfl (Nat.le_of_ble_eq_true rfl) ⟨rfl, rfl⟩ ⟨Nat.le_of_ble_eq_true rfl, Nat.le_of_ble_eq_true rfl⟩ ⟨Nat.le_of_ble_eq_true rfl, Nat.le_of_ble_eq_true rfl⟩ d_C_resolves_21 (fun r_5 u H locs h hw => ?_)
    refine lv_iand hx hb d_C_resolves_24 ?_
    refine lv_if_eq (tgt := 32) hx hb d_C_resolves_25 (by decide) (fun c_6 => ?_) (fun c_6 => ?_)
    · have h := h.1 c_6
      refine lv_iconst (v := 0) hx hb d_C_resolves_32 (by decide) ?_
      exact x_zret C0 hw rfl () h rfl d_C_resolves_33
    · have h := h.2 c_6
      refine lv_iconst (v := 1) hx hb d_C_resolves_28 (by decide) ?_
      refine lv_goto (tgt := 33) hx hb d_C_resolves_29 (by decide) ?_
      exact x_zret C0 hw rfl () h rfl d_C_resolves_33
theorem g_C_clashes : GY y_C_clashes b_C_clashes 4 (some .boolean) 3 := ⟨wm_461, wm_55, by decide +kernel, by decide +kernel, by decide +kernel⟩
def p_C_clashes (C_positive : Nat → Int32) (C_negative : Nat → Int32) (x1 : Int32) (x2 : Int32) (x3 : Int32) (k : Int32 → Prop) : Prop :=
  (p_C_positiveRest C_positive x1 x2 x3 (fun (r_1 : Int32) => (p_C_negativeRest C_negative x1 x2 x3 (fun (r_2 : Int32) => (((r_1 &&& r_2) = 0 → (k (0 : Int32))) ∧ (¬ (r_1 &&& r_2) = 0 → (k (1 : Int32))))))))
abbrev rm_C_clashes : Room := { frames := 2, cells := 0, slots := 0, locals := 43 }
set_option maxHeartbeats 4000000 in
set_option maxRecDepth 100000 in
theorem c_C_clashes {l : Launch} {D : va_G} {ca : Nat → ClassId} {tp : Nat} {ad : Nat → Nat} {T_length : Int32} {T_bytes : Nat → Int32} {C_size : Int32} {C_given : Int32} {C_empty : Int32} {C_drafted : Int32} {C_draftedGiven : Int32} {C_block : Nat → Int32} {C_left : Nat → Int32} {C_right : Nat → Int32} {C_pivot : Nat → Int32} {C_positive : Nat → Int32} {C_negative : Nat → Int32} {C_live : Nat → Int32} {C_needed : Nat → Int32} {R_kind : Int32} {R_place : Int32} {R_at : Int32} {R_token : Int32} {R_tokenPlace : Int32} {R_number : Int32} {R_state : Int32} {R_block : Int32} {R_positive : Int32} {R_negative : Int32} {R_left : Int32} {R_right : Int32} {R_pivot : Int32} {L_of : Nat → Int32} {F_cut : Int32} {F_labelledA : Int32} {F_labelledB : Int32} {F_row : Nat → Int64} {A_root : Int32} {A_words : Nat → Int64} {A_known : Nat → Int32} {G_size : Int32} {G_variable : Nat → Int32} {G_low : Nat → Int32} {G_high : Nat → Int32} {G_numberOf : Nat → Int32} {G_nodeOf : Nat → Int32} {G_sides : Nat → Int32} {G_waiting : Nat → Int32} {B_table : Nat → Int64} {B_nextTable : Nat → Int64} {x1 : Int32} {x2 : Int32} {x3 : Int32} {k : Int32 → Prop} (h : p_C_clashes C_positive C_negative x1 x2 x3 k) :
    MTi l y_C_clashes b_C_clashes 4 (some .boolean) rm_C_clashes D ca tp [.ref (ad 3), .int x1, .int x2, .int x3] (WB ad ca T_length T_bytes C_size C_given C_empty C_drafted C_draftedGiven C_block C_left C_right C_pivot C_positive C_negative C_live C_needed R_kind R_place R_at R_token R_tokenPlace R_number R_state R_block R_positive R_negative R_left R_right R_pivot L_of F_cut F_labelledA F_labelledB F_row A_root A_words A_known G_size G_variable G_low G_high G_numberOf G_nodeOf G_sides G_waiting B_table B_nextTable)
      (fun r (_ : Unit) => k r)
      (fun (_ : Unit) => WB ad ca T_length T_bytes C_size C_given C_empty C_drafted C_draftedGiven C_block C_left C_right C_pivot C_positive C_negative C_live C_needed R_kind R_place R_at R_token R_tokenPlace R_number R_state R_block R_positive R_negative R_left R_right R_pivot L_of F_cut F_labelledA F_labelledB F_row A_root A_words A_known G_size G_variable G_low G_high G_numberOf G_nodeOf G_sides G_waiting B_table B_nextTable) 0 0 := by
  refine x_entryi (own := R_C) (nm := "clashes") (by decide) rfl rfl (Nat.le_of_ble_eq_true rfl) (fun p e s m below meth c A ls C0 hw hl => ?_)
  have hx := C0.1
  have hb := C0.2.1
  have hl : lv_has ls 4 [(0, .ref (ad 3)), (1, .int x1), (2, .int x2), (3, .int x3)] := hl
  unfold p_C_clashes at h
  refine lv_aload_n hx hb d_C_clashes_0 rfl (lv_at hl 0 rfl) ?_
  refine lv_iload_n hx hb d_C_clashes_1 rfl (lv_at hl 1 rfl) ?_
  refine lv_iload_n hx hb d_C_clashes_2 rfl (lv_at hl 2 rfl) ?_
  refine lv_iload_n hx hb d_C_clashes_3 rfl (lv_at hl 3 rfl) ?_
  refine x_callVi C0 hw hl (c_C_positiveRest h) g_C_positiveRest wm_462 ⟨wm_16, wm_464⟩ 3 rfl rfl rfl (As := [.int x1, .int x2, .int x3]) (rest := []) rfl rfl (Nat.le_of_ble_eq_true rfl) ⟨rfl, rfl⟩ ⟨Nat.le_of_ble_eq_true rfl, Nat.le_of_ble_eq_true rfl⟩ ⟨Nat.le_of_ble_eq_true rfl, Nat.le_of_ble_eq_true rfl⟩ d_C_clashes_4 (fun r_1 u H locs h hw => ?_)
  refine lv_aload_n hx hb d_C_clashes_7 rfl (lv_at hl 0 rfl) ?_
  refine lv_iload_n hx hb d_C_clashes_8 rfl (lv_at hl 1 rfl) ?_
  refine lv_iload_n hx hb d_C_clashes_9 rfl (lv_at hl 2 rfl) ?_
  refine lv_iload_n hx hb d_C_clashes_10 rfl (lv_at hl 3 rfl) ?_
  refine x_callVi C0 hw hl (c_C_negativeRest h) g_C_negativeRest wm_466 ⟨wm_17, wm_468⟩ 3 rfl rfl rfl (As := [.int x1, .int x2, .int x3]) (rest := [.int r_1]) rfl rfl (Nat.le_of_ble_eq_true rfl) ⟨rfl, rfl⟩ ⟨Nat.le_of_ble_eq_true rfl, Nat.le_of_ble_eq_true rfl⟩ ⟨Nat.le_of_ble_eq_true rfl, Nat.le_of_ble_eq_true rfl⟩ d_C_clashes_11 (fun r_2 u H locs h hw => ?_)
  refine lv_iand hx hb d_C_clashes_14 ?_
  refine lv_if_eq (tgt := 22) hx hb d_C_clashes_15 (by decide) (fun c_3 => ?_) (fun c_3 => ?_)
  · have h := h.1 c_3
    refine lv_iconst (v := 0) hx hb d_C_clashes_22 (by decide) ?_
    exact x_zret C0 hw rfl () h rfl d_C_clashes_23
  · have h := h.2 c_3
    refine lv_iconst (v := 1) hx hb d_C_clashes_18 (by decide) ?_
    refine lv_goto (tgt := 23) hx hb d_C_clashes_19 (by decide) ?_
    exact x_zret C0 hw rfl () h rfl d_C_clashes_23
theorem g_C_draft : GY y_C_draft b_C_draft 3 none 2 := ⟨wm_423, wm_55, by decide +kernel, by decide +kernel, by decide +kernel⟩
def p_C_draft (C_drafted : Int32) (C_positive : Nat → Int32) (C_negative : Nat → Int32) (C_live : Nat → Int32) (x1 : Int32) (x2 : Int32) (k : Int32 → (Nat → Int32) → (Nat → Int32) → (Nat → Int32) → Prop) : Prop :=
  (vp_in (C_drafted + (1 : Int32)) 201 ∧ (k (C_drafted + (1 : Int32)) (upd C_positive (C_drafted + (1 : Int32)).toNatClampNeg x1) (upd C_negative (C_drafted + (1 : Int32)).toNatClampNeg x2) (upd C_live (C_drafted + (1 : Int32)).toNatClampNeg (1 : Int32))))
abbrev rm_C_draft : Room := { frames := 0, cells := 0, slots := 0, locals := 0 }
set_option maxHeartbeats 4000000 in
set_option maxRecDepth 100000 in
theorem c_C_draft {l : Launch} {D : va_G} {ca : Nat → ClassId} {tp : Nat} {ad : Nat → Nat} {T_length : Int32} {T_bytes : Nat → Int32} {C_size : Int32} {C_given : Int32} {C_empty : Int32} {C_drafted : Int32} {C_draftedGiven : Int32} {C_block : Nat → Int32} {C_left : Nat → Int32} {C_right : Nat → Int32} {C_pivot : Nat → Int32} {C_positive : Nat → Int32} {C_negative : Nat → Int32} {C_live : Nat → Int32} {C_needed : Nat → Int32} {R_kind : Int32} {R_place : Int32} {R_at : Int32} {R_token : Int32} {R_tokenPlace : Int32} {R_number : Int32} {R_state : Int32} {R_block : Int32} {R_positive : Int32} {R_negative : Int32} {R_left : Int32} {R_right : Int32} {R_pivot : Int32} {L_of : Nat → Int32} {F_cut : Int32} {F_labelledA : Int32} {F_labelledB : Int32} {F_row : Nat → Int64} {A_root : Int32} {A_words : Nat → Int64} {A_known : Nat → Int32} {G_size : Int32} {G_variable : Nat → Int32} {G_low : Nat → Int32} {G_high : Nat → Int32} {G_numberOf : Nat → Int32} {G_nodeOf : Nat → Int32} {G_sides : Nat → Int32} {G_waiting : Nat → Int32} {B_table : Nat → Int64} {B_nextTable : Nat → Int64} {x1 : Int32} {x2 : Int32} {k : Int32 → (Nat → Int32) → (Nat → Int32) → (Nat → Int32) → Prop} (h : p_C_draft C_drafted C_positive C_negative C_live x1 x2 k) :
    MTv l y_C_draft b_C_draft 3 none rm_C_draft D ca tp [.ref (ad 3), .int x1, .int x2] (WB ad ca T_length T_bytes C_size C_given C_empty C_drafted C_draftedGiven C_block C_left C_right C_pivot C_positive C_negative C_live C_needed R_kind R_place R_at R_token R_tokenPlace R_number R_state R_block R_positive R_negative R_left R_right R_pivot L_of F_cut F_labelledA F_labelledB F_row A_root A_words A_known G_size G_variable G_low G_high G_numberOf G_nodeOf G_sides G_waiting B_table B_nextTable)
      (fun (u : Int32 × (Nat → Int32) × (Nat → Int32) × (Nat → Int32)) => k u.1 u.2.1 u.2.2.1 u.2.2.2)
      (fun (u : Int32 × (Nat → Int32) × (Nat → Int32) × (Nat → Int32)) => WB ad ca T_length T_bytes C_size C_given C_empty u.1 C_draftedGiven C_block C_left C_right C_pivot u.2.1 u.2.2.1 u.2.2.2 C_needed R_kind R_place R_at R_token R_tokenPlace R_number R_state R_block R_positive R_negative R_left R_right R_pivot L_of F_cut F_labelledA F_labelledB F_row A_root A_words A_known G_size G_variable G_low G_high G_numberOf G_nodeOf G_sides G_waiting B_table B_nextTable) 0 0 := by
  refine x_entryv (own := R_C) (nm := "draft") (by decide) rfl rfl (Nat.le_of_ble_eq_true rfl) (fun p e s m below meth c A ls C0 hw hl => ?_)
  have hx := C0.1
  have hb := C0.2.1
  have hl : lv_has ls 3 [(0, .ref (ad 3)), (1, .int x1), (2, .int x2)] := hl
  unfold p_C_draft at h
  refine lv_aload_n hx hb d_C_draft_0 rfl (lv_at hl 0 rfl) ?_
  refine lv_dup hx hb d_C_draft_1 rfl ?_
  refine x_get C0 hw 3 rfl rfl i_C 11 (by decide) wm_126 rfl rfl d_C_draft_2 ?_
  refine lv_iconst (v := 1) hx hb d_C_draft_5 (by decide) ?_
  refine lv_iadd hx hb d_C_draft_6 ?_
  refine x_put C0 hw 3 rfl rfl i_C tk_C n_C 11 (by decide) wm_126 rfl rfl rfl rfl (Nat.le_of_ble_eq_true rfl) (ws' := WB ad ca T_length T_bytes C_size C_given C_empty (C_drafted + (1 : Int32)) C_draftedGiven C_block C_left C_right C_pivot C_positive C_negative C_live C_needed R_kind R_place R_at R_token R_tokenPlace R_number R_state R_block R_positive R_negative R_left R_right R_pivot L_of F_cut F_labelledA F_labelledB F_row A_root A_words A_known G_size G_variable G_low G_high G_numberOf G_nodeOf G_sides G_waiting B_table B_nextTable) rfl d_C_draft_7 (fun H locs hw => ?_)
  refine lv_aload_n hx hb d_C_draft_10 rfl (lv_at hl 0 rfl) ?_
  refine x_get C0 hw 3 rfl rfl i_C 4 (by decide) wm_107 rfl rfl d_C_draft_11 ?_
  refine lv_aload_n hx hb d_C_draft_14 rfl (lv_at hl 0 rfl) ?_
  refine x_get C0 hw 3 rfl rfl i_C 11 (by decide) wm_126 rfl rfl d_C_draft_15 ?_
  refine lv_iload_n hx hb d_C_draft_18 rfl (lv_at hl 1 rfl) ?_
  obtain ⟨hi_1, h⟩ := h
  refine x_iast C0 hw 8 rfl hi_1 (ws' := WB ad ca T_length T_bytes C_size C_given C_empty (C_drafted + (1 : Int32)) C_draftedGiven C_block C_left C_right C_pivot (upd C_positive (C_drafted + (1 : Int32)).toNatClampNeg x1) C_negative C_live C_needed R_kind R_place R_at R_token R_tokenPlace R_number R_state R_block R_positive R_negative R_left R_right R_pivot L_of F_cut F_labelledA F_labelledB F_row A_root A_words A_known G_size G_variable G_low G_high G_numberOf G_nodeOf G_sides G_waiting B_table B_nextTable) rfl d_C_draft_19 (fun H locs hw => ?_)
  refine lv_aload_n hx hb d_C_draft_20 rfl (lv_at hl 0 rfl) ?_
  refine x_get C0 hw 3 rfl rfl i_C 5 (by decide) wm_110 rfl rfl d_C_draft_21 ?_
  refine lv_aload_n hx hb d_C_draft_24 rfl (lv_at hl 0 rfl) ?_
  refine x_get C0 hw 3 rfl rfl i_C 11 (by decide) wm_126 rfl rfl d_C_draft_25 ?_
  refine lv_iload_n hx hb d_C_draft_28 rfl (lv_at hl 2 rfl) ?_
  refine x_iast C0 hw 9 rfl hi_1 (ws' := WB ad ca T_length T_bytes C_size C_given C_empty (C_drafted + (1 : Int32)) C_draftedGiven C_block C_left C_right C_pivot (upd C_positive (C_drafted + (1 : Int32)).toNatClampNeg x1) (upd C_negative (C_drafted + (1 : Int32)).toNatClampNeg x2) C_live C_needed R_kind R_place R_at R_token R_tokenPlace R_number R_state R_block R_positive R_negative R_left R_right R_pivot L_of F_cut F_labelledA F_labelledB F_row A_root A_words A_known G_size G_variable G_low G_high G_numberOf G_nodeOf G_sides G_waiting B_table B_nextTable) rfl d_C_draft_29 (fun H locs hw => ?_)
  refine lv_aload_n hx hb d_C_draft_30 rfl (lv_at hl 0 rfl) ?_
  refine x_get C0 hw 3 rfl rfl i_C 6 (by decide) wm_113 rfl rfl d_C_draft_31 ?_
  refine lv_aload_n hx hb d_C_draft_34 rfl (lv_at hl 0 rfl) ?_
  refine x_get C0 hw 3 rfl rfl i_C 11 (by decide) wm_126 rfl rfl d_C_draft_35 ?_
  refine lv_iconst (v := 1) hx hb d_C_draft_38 (by decide) ?_
  refine x_zast C0 hw 10 rfl hi_1 (ws' := WB ad ca T_length T_bytes C_size C_given C_empty (C_drafted + (1 : Int32)) C_draftedGiven C_block C_left C_right C_pivot (upd C_positive (C_drafted + (1 : Int32)).toNatClampNeg x1) (upd C_negative (C_drafted + (1 : Int32)).toNatClampNeg x2) (upd C_live (C_drafted + (1 : Int32)).toNatClampNeg (1 : Int32)) C_needed R_kind R_place R_at R_token R_tokenPlace R_number R_state R_block R_positive R_negative R_left R_right R_pivot L_of F_cut F_labelledA F_labelledB F_row A_root A_words A_known G_size G_variable G_low G_high G_numberOf G_nodeOf G_sides G_waiting B_table B_nextTable) rfl d_C_draft_39 (fun H locs hw => ?_)
  exact x_vret C0 hw ((C_drafted + (1 : Int32)), (upd C_positive (C_drafted + (1 : Int32)).toNatClampNeg x1), (upd C_negative (C_drafted + (1 : Int32)).toNatClampNeg x2), (upd C_live (C_drafted + (1 : Int32)).toNatClampNeg (1 : Int32))) h rfl d_C_draft_40
theorem g_C_draftGiven : GY y_C_draftGiven b_C_draftGiven 4 none 3 := ⟨wm_418, wm_55, by decide +kernel, by decide +kernel, by decide +kernel⟩
def p_C_draftGiven (C_drafted : Int32) (C_draftedGiven : Int32) (C_block : Nat → Int32) (C_left : Nat → Int32) (C_right : Nat → Int32) (C_pivot : Nat → Int32) (C_positive : Nat → Int32) (C_negative : Nat → Int32) (C_live : Nat → Int32) (x1 : Int32) (x2 : Int32) (x3 : Int32) (k : Int32 → Int32 → (Nat → Int32) → (Nat → Int32) → (Nat → Int32) → (Nat → Int32) → (Nat → Int32) → (Nat → Int32) → (Nat → Int32) → Prop) : Prop :=
  (p_C_hasRoomForGiven C_drafted C_draftedGiven (fun (r_1 : Int32) => ((r_1 = 0 → (k C_drafted C_draftedGiven C_block C_left C_right C_pivot C_positive C_negative C_live)) ∧ (¬ r_1 = 0 → (p_C_draft C_drafted C_positive C_negative C_live x2 x3 (fun (C_drafted_3 : Int32) (C_positive_4 : Nat → Int32) (C_negative_5 : Nat → Int32) (C_live_6 : Nat → Int32) => (vp_in C_drafted_3 201 ∧ (k C_drafted_3 (C_draftedGiven + (1 : Int32)) (upd C_block C_drafted_3.toNatClampNeg x1) (upd C_left C_drafted_3.toNatClampNeg (0 : Int32)) (upd C_right C_drafted_3.toNatClampNeg (0 : Int32)) (upd C_pivot C_drafted_3.toNatClampNeg (0 : Int32)) C_positive_4 C_negative_5 C_live_6))))))))
abbrev rm_C_draftGiven : Room := { frames := 2, cells := 0, slots := 0, locals := 40 }
set_option maxHeartbeats 4000000 in
set_option maxRecDepth 100000 in
theorem c_C_draftGiven {l : Launch} {D : va_G} {ca : Nat → ClassId} {tp : Nat} {ad : Nat → Nat} {T_length : Int32} {T_bytes : Nat → Int32} {C_size : Int32} {C_given : Int32} {C_empty : Int32} {C_drafted : Int32} {C_draftedGiven : Int32} {C_block : Nat → Int32} {C_left : Nat → Int32} {C_right : Nat → Int32} {C_pivot : Nat → Int32} {C_positive : Nat → Int32} {C_negative : Nat → Int32} {C_live : Nat → Int32} {C_needed : Nat → Int32} {R_kind : Int32} {R_place : Int32} {R_at : Int32} {R_token : Int32} {R_tokenPlace : Int32} {R_number : Int32} {R_state : Int32} {R_block : Int32} {R_positive : Int32} {R_negative : Int32} {R_left : Int32} {R_right : Int32} {R_pivot : Int32} {L_of : Nat → Int32} {F_cut : Int32} {F_labelledA : Int32} {F_labelledB : Int32} {F_row : Nat → Int64} {A_root : Int32} {A_words : Nat → Int64} {A_known : Nat → Int32} {G_size : Int32} {G_variable : Nat → Int32} {G_low : Nat → Int32} {G_high : Nat → Int32} {G_numberOf : Nat → Int32} {G_nodeOf : Nat → Int32} {G_sides : Nat → Int32} {G_waiting : Nat → Int32} {B_table : Nat → Int64} {B_nextTable : Nat → Int64} {x1 : Int32} {x2 : Int32} {x3 : Int32} {k : Int32 → Int32 → (Nat → Int32) → (Nat → Int32) → (Nat → Int32) → (Nat → Int32) → (Nat → Int32) → (Nat → Int32) → (Nat → Int32) → Prop} (h : p_C_draftGiven C_drafted C_draftedGiven C_block C_left C_right C_pivot C_positive C_negative C_live x1 x2 x3 k) :
    MTv l y_C_draftGiven b_C_draftGiven 4 none rm_C_draftGiven D ca tp [.ref (ad 3), .int x1, .int x2, .int x3] (WB ad ca T_length T_bytes C_size C_given C_empty C_drafted C_draftedGiven C_block C_left C_right C_pivot C_positive C_negative C_live C_needed R_kind R_place R_at R_token R_tokenPlace R_number R_state R_block R_positive R_negative R_left R_right R_pivot L_of F_cut F_labelledA F_labelledB F_row A_root A_words A_known G_size G_variable G_low G_high G_numberOf G_nodeOf G_sides G_waiting B_table B_nextTable)
      (fun (u : Int32 × Int32 × (Nat → Int32) × (Nat → Int32) × (Nat → Int32) × (Nat → Int32) × (Nat → Int32) × (Nat → Int32) × (Nat → Int32)) => k u.1 u.2.1 u.2.2.1 u.2.2.2.1 u.2.2.2.2.1 u.2.2.2.2.2.1 u.2.2.2.2.2.2.1 u.2.2.2.2.2.2.2.1 u.2.2.2.2.2.2.2.2)
      (fun (u : Int32 × Int32 × (Nat → Int32) × (Nat → Int32) × (Nat → Int32) × (Nat → Int32) × (Nat → Int32) × (Nat → Int32) × (Nat → Int32)) => WB ad ca T_length T_bytes C_size C_given C_empty u.1 u.2.1 u.2.2.1 u.2.2.2.1 u.2.2.2.2.1 u.2.2.2.2.2.1 u.2.2.2.2.2.2.1 u.2.2.2.2.2.2.2.1 u.2.2.2.2.2.2.2.2 C_needed R_kind R_place R_at R_token R_tokenPlace R_number R_state R_block R_positive R_negative R_left R_right R_pivot L_of F_cut F_labelledA F_labelledB F_row A_root A_words A_known G_size G_variable G_low G_high G_numberOf G_nodeOf G_sides G_waiting B_table B_nextTable) 0 0 := by
  refine x_entryv (own := R_C) (nm := "draftGiven") (by decide) rfl rfl (Nat.le_of_ble_eq_true rfl) (fun p e s m below meth c A ls C0 hw hl => ?_)
  have hx := C0.1
  have hb := C0.2.1
  have hl : lv_has ls 4 [(0, .ref (ad 3)), (1, .int x1), (2, .int x2), (3, .int x3)] := hl
  unfold p_C_draftGiven at h
  refine lv_aload_n hx hb d_C_draftGiven_0 rfl (lv_at hl 0 rfl) ?_
  refine x_callVi C0 hw hl (c_C_hasRoomForGiven h) g_C_hasRoomForGiven wm_419 ⟨wm_392, wm_391⟩ 3 rfl rfl rfl (As := []) (rest := []) rfl rfl (Nat.le_of_ble_eq_true rfl) ⟨rfl, rfl⟩ ⟨Nat.le_of_ble_eq_true rfl, Nat.le_of_ble_eq_true rfl⟩ ⟨Nat.le_of_ble_eq_true rfl, Nat.le_of_ble_eq_true rfl⟩ d_C_draftGiven_1 (fun r_1 u H locs h hw => ?_)
  refine lv_if_eq (tgt := 63) hx hb d_C_draftGiven_4 (by decide) (fun c_2 => ?_) (fun c_2 => ?_)
  · have h := h.1 c_2
    exact x_vret C0 hw (C_drafted, C_draftedGiven, C_block, C_left, C_right, C_pivot, C_positive, C_negative, C_live) h rfl d_C_draftGiven_63
  · have h := h.2 c_2
    refine lv_aload_n hx hb d_C_draftGiven_7 rfl (lv_at hl 0 rfl) ?_
    refine lv_iload_n hx hb d_C_draftGiven_8 rfl (lv_at hl 2 rfl) ?_
    refine lv_iload_n hx hb d_C_draftGiven_9 rfl (lv_at hl 3 rfl) ?_
    refine x_callVv C0 hw hl (c_C_draft h) g_C_draft wm_420 ⟨wm_10, wm_422⟩ 3 rfl rfl rfl (As := [.int x2, .int x3]) (rest := []) rfl rfl (Nat.le_of_ble_eq_true rfl) ⟨rfl, rfl⟩ ⟨Nat.le_of_ble_eq_true rfl, Nat.le_of_ble_eq_true rfl⟩ ⟨Nat.le_of_ble_eq_true rfl, Nat.le_of_ble_eq_true rfl⟩ d_C_draftGiven_10 (fun u H locs h hw => ?_)
    obtain ⟨C_drafted_3, C_positive_4, C_negative_5, C_live_6⟩ := u
    refine lv_aload_n hx hb d_C_draftGiven_13 rfl (lv_at hl 0 rfl) ?_
    refine x_get C0 hw 3 rfl rfl i_C 0 (by decide) wm_95 rfl rfl d_C_draftGiven_14 ?_
    refine lv_aload_n hx hb d_C_draftGiven_17 rfl (lv_at hl 0 rfl) ?_
    refine x_get C0 hw 3 rfl rfl i_C 11 (by decide) wm_126 rfl rfl d_C_draftGiven_18 ?_
    refine lv_iload_n hx hb d_C_draftGiven_21 rfl (lv_at hl 1 rfl) ?_
    obtain ⟨hi_8, h⟩ := h
    refine x_iast C0 hw 4 rfl hi_8 (ws' := WB ad ca T_length T_bytes C_size C_given C_empty C_drafted_3 C_draftedGiven (upd C_block C_drafted_3.toNatClampNeg x1) C_left C_right C_pivot C_positive_4 C_negative_5 C_live_6 C_needed R_kind R_place R_at R_token R_tokenPlace R_number R_state R_block R_positive R_negative R_left R_right R_pivot L_of F_cut F_labelledA F_labelledB F_row A_root A_words A_known G_size G_variable G_low G_high G_numberOf G_nodeOf G_sides G_waiting B_table B_nextTable) rfl d_C_draftGiven_22 (fun H locs hw => ?_)
    refine lv_aload_n hx hb d_C_draftGiven_23 rfl (lv_at hl 0 rfl) ?_
    refine x_get C0 hw 3 rfl rfl i_C 1 (by decide) wm_98 rfl rfl d_C_draftGiven_24 ?_
    refine lv_aload_n hx hb d_C_draftGiven_27 rfl (lv_at hl 0 rfl) ?_
    refine x_get C0 hw 3 rfl rfl i_C 11 (by decide) wm_126 rfl rfl d_C_draftGiven_28 ?_
    refine lv_iconst (v := 0) hx hb d_C_draftGiven_31 (by decide) ?_
    refine x_iast C0 hw 5 rfl hi_8 (ws' := WB ad ca T_length T_bytes C_size C_given C_empty C_drafted_3 C_draftedGiven (upd C_block C_drafted_3.toNatClampNeg x1) (upd C_left C_drafted_3.toNatClampNeg (0 : Int32)) C_right C_pivot C_positive_4 C_negative_5 C_live_6 C_needed R_kind R_place R_at R_token R_tokenPlace R_number R_state R_block R_positive R_negative R_left R_right R_pivot L_of F_cut F_labelledA F_labelledB F_row A_root A_words A_known G_size G_variable G_low G_high G_numberOf G_nodeOf G_sides G_waiting B_table B_nextTable) rfl d_C_draftGiven_32 (fun H locs hw => ?_)
    refine lv_aload_n hx hb d_C_draftGiven_33 rfl (lv_at hl 0 rfl) ?_
    refine x_get C0 hw 3 rfl rfl i_C 2 (by decide) wm_101 rfl rfl d_C_draftGiven_34 ?_
    refine lv_aload_n hx hb d_C_draftGiven_37 rfl (lv_at hl 0 rfl) ?_
    refine x_get C0 hw 3 rfl rfl i_C 11 (by decide) wm_126 rfl rfl d_C_draftGiven_38 ?_
    refine lv_iconst (v := 0) hx hb d_C_draftGiven_41 (by decide) ?_
    refine x_iast C0 hw 6 rfl hi_8 (ws' := WB ad ca T_length T_bytes C_size C_given C_empty C_drafted_3 C_draftedGiven (upd C_block C_drafted_3.toNatClampNeg x1) (upd C_left C_drafted_3.toNatClampNeg (0 : Int32)) (upd C_right C_drafted_3.toNatClampNeg (0 : Int32)) C_pivot C_positive_4 C_negative_5 C_live_6 C_needed R_kind R_place R_at R_token R_tokenPlace R_number R_state R_block R_positive R_negative R_left R_right R_pivot L_of F_cut F_labelledA F_labelledB F_row A_root A_words A_known G_size G_variable G_low G_high G_numberOf G_nodeOf G_sides G_waiting B_table B_nextTable) rfl d_C_draftGiven_42 (fun H locs hw => ?_)
    refine lv_aload_n hx hb d_C_draftGiven_43 rfl (lv_at hl 0 rfl) ?_
    refine x_get C0 hw 3 rfl rfl i_C 3 (by decide) wm_104 rfl rfl d_C_draftGiven_44 ?_
    refine lv_aload_n hx hb d_C_draftGiven_47 rfl (lv_at hl 0 rfl) ?_
    refine x_get C0 hw 3 rfl rfl i_C 11 (by decide) wm_126 rfl rfl d_C_draftGiven_48 ?_
    refine lv_iconst (v := 0) hx hb d_C_draftGiven_51 (by decide) ?_
    refine x_iast C0 hw 7 rfl hi_8 (ws' := WB ad ca T_length T_bytes C_size C_given C_empty C_drafted_3 C_draftedGiven (upd C_block C_drafted_3.toNatClampNeg x1) (upd C_left C_drafted_3.toNatClampNeg (0 : Int32)) (upd C_right C_drafted_3.toNatClampNeg (0 : Int32)) (upd C_pivot C_drafted_3.toNatClampNeg (0 : Int32)) C_positive_4 C_negative_5 C_live_6 C_needed R_kind R_place R_at R_token R_tokenPlace R_number R_state R_block R_positive R_negative R_left R_right R_pivot L_of F_cut F_labelledA F_labelledB F_row A_root A_words A_known G_size G_variable G_low G_high G_numberOf G_nodeOf G_sides G_waiting B_table B_nextTable) rfl d_C_draftGiven_52 (fun H locs hw => ?_)
    refine lv_aload_n hx hb d_C_draftGiven_53 rfl (lv_at hl 0 rfl) ?_
    refine lv_dup hx hb d_C_draftGiven_54 rfl ?_
    refine x_get C0 hw 3 rfl rfl i_C 12 (by decide) wm_127 rfl rfl d_C_draftGiven_55 ?_
    refine lv_iconst (v := 1) hx hb d_C_draftGiven_58 (by decide) ?_
    refine lv_iadd hx hb d_C_draftGiven_59 ?_
    refine x_put C0 hw 3 rfl rfl i_C tk_C n_C 12 (by decide) wm_127 rfl rfl rfl rfl (Nat.le_of_ble_eq_true rfl) (ws' := WB ad ca T_length T_bytes C_size C_given C_empty C_drafted_3 (C_draftedGiven + (1 : Int32)) (upd C_block C_drafted_3.toNatClampNeg x1) (upd C_left C_drafted_3.toNatClampNeg (0 : Int32)) (upd C_right C_drafted_3.toNatClampNeg (0 : Int32)) (upd C_pivot C_drafted_3.toNatClampNeg (0 : Int32)) C_positive_4 C_negative_5 C_live_6 C_needed R_kind R_place R_at R_token R_tokenPlace R_number R_state R_block R_positive R_negative R_left R_right R_pivot L_of F_cut F_labelledA F_labelledB F_row A_root A_words A_known G_size G_variable G_low G_high G_numberOf G_nodeOf G_sides G_waiting B_table B_nextTable) rfl d_C_draftGiven_60 (fun H locs hw => ?_)
    exact x_vret C0 hw (C_drafted_3, (C_draftedGiven + (1 : Int32)), (upd C_block C_drafted_3.toNatClampNeg x1), (upd C_left C_drafted_3.toNatClampNeg (0 : Int32)), (upd C_right C_drafted_3.toNatClampNeg (0 : Int32)), (upd C_pivot C_drafted_3.toNatClampNeg (0 : Int32)), C_positive_4, C_negative_5, C_live_6) h rfl d_C_draftGiven_63
theorem g_C_draftResolvent : GY y_C_draftResolvent b_C_draftResolvent 4 none 3 := ⟨wm_482, wm_55, by decide +kernel, by decide +kernel, by decide +kernel⟩
def p_C_draftResolvent (C_drafted : Int32) (C_block : Nat → Int32) (C_left : Nat → Int32) (C_right : Nat → Int32) (C_pivot : Nat → Int32) (C_positive : Nat → Int32) (C_negative : Nat → Int32) (C_live : Nat → Int32) (x1 : Int32) (x2 : Int32) (x3 : Int32) (k : Int32 → (Nat → Int32) → (Nat → Int32) → (Nat → Int32) → (Nat → Int32) → (Nat → Int32) → (Nat → Int32) → (Nat → Int32) → Prop) : Prop :=
  (p_C_hasRoom C_drafted (fun (r_1 : Int32) => ((r_1 = 0 → (k C_drafted C_block C_left C_right C_pivot C_positive C_negative C_live)) ∧ (¬ r_1 = 0 → (p_C_isDrafted C_drafted x1 (fun (r_3 : Int32) => ((r_3 = 0 → (k C_drafted C_block C_left C_right C_pivot C_positive C_negative C_live)) ∧ (¬ r_3 = 0 → (p_C_isDrafted C_drafted x2 (fun (r_5 : Int32) => ((r_5 = 0 → (k C_drafted C_block C_left C_right C_pivot C_positive C_negative C_live)) ∧ (¬ r_5 = 0 → (p_C_positiveRest C_positive x1 x2 x3 (fun (r_7 : Int32) => (p_C_negativeRest C_negative x1 x2 x3 (fun (r_8 : Int32) => (p_C_draft C_drafted C_positive C_negative C_live r_7 r_8 (fun (C_drafted_9 : Int32) (C_positive_10 : Nat → Int32) (C_negative_11 : Nat → Int32) (C_live_12 : Nat → Int32) => (vp_in C_drafted_9 201 ∧ (k C_drafted_9 (upd C_block C_drafted_9.toNatClampNeg (0 : Int32)) (upd C_left C_drafted_9.toNatClampNeg x1) (upd C_right C_drafted_9.toNatClampNeg x2) (upd C_pivot C_drafted_9.toNatClampNeg x3) C_positive_10 C_negative_11 C_live_12))))))))))))))))))))
abbrev rm_C_draftResolvent : Room := { frames := 2, cells := 0, slots := 0, locals := 43 }
set_option maxHeartbeats 4000000 in
set_option maxRecDepth 100000 in
theorem c_C_draftResolvent {l : Launch} {D : va_G} {ca : Nat → ClassId} {tp : Nat} {ad : Nat → Nat} {T_length : Int32} {T_bytes : Nat → Int32} {C_size : Int32} {C_given : Int32} {C_empty : Int32} {C_drafted : Int32} {C_draftedGiven : Int32} {C_block : Nat → Int32} {C_left : Nat → Int32} {C_right : Nat → Int32} {C_pivot : Nat → Int32} {C_positive : Nat → Int32} {C_negative : Nat → Int32} {C_live : Nat → Int32} {C_needed : Nat → Int32} {R_kind : Int32} {R_place : Int32} {R_at : Int32} {R_token : Int32} {R_tokenPlace : Int32} {R_number : Int32} {R_state : Int32} {R_block : Int32} {R_positive : Int32} {R_negative : Int32} {R_left : Int32} {R_right : Int32} {R_pivot : Int32} {L_of : Nat → Int32} {F_cut : Int32} {F_labelledA : Int32} {F_labelledB : Int32} {F_row : Nat → Int64} {A_root : Int32} {A_words : Nat → Int64} {A_known : Nat → Int32} {G_size : Int32} {G_variable : Nat → Int32} {G_low : Nat → Int32} {G_high : Nat → Int32} {G_numberOf : Nat → Int32} {G_nodeOf : Nat → Int32} {G_sides : Nat → Int32} {G_waiting : Nat → Int32} {B_table : Nat → Int64} {B_nextTable : Nat → Int64} {x1 : Int32} {x2 : Int32} {x3 : Int32} {k : Int32 → (Nat → Int32) → (Nat → Int32) → (Nat → Int32) → (Nat → Int32) → (Nat → Int32) → (Nat → Int32) → (Nat → Int32) → Prop} (h : p_C_draftResolvent C_drafted C_block C_left C_right C_pivot C_positive C_negative C_live x1 x2 x3 k) :
    MTv l y_C_draftResolvent b_C_draftResolvent 4 none rm_C_draftResolvent D ca tp [.ref (ad 3), .int x1, .int x2, .int x3] (WB ad ca T_length T_bytes C_size C_given C_empty C_drafted C_draftedGiven C_block C_left C_right C_pivot C_positive C_negative C_live C_needed R_kind R_place R_at R_token R_tokenPlace R_number R_state R_block R_positive R_negative R_left R_right R_pivot L_of F_cut F_labelledA F_labelledB F_row A_root A_words A_known G_size G_variable G_low G_high G_numberOf G_nodeOf G_sides G_waiting B_table B_nextTable)
      (fun (u : Int32 × (Nat → Int32) × (Nat → Int32) × (Nat → Int32) × (Nat → Int32) × (Nat → Int32) × (Nat → Int32) × (Nat → Int32)) => k u.1 u.2.1 u.2.2.1 u.2.2.2.1 u.2.2.2.2.1 u.2.2.2.2.2.1 u.2.2.2.2.2.2.1 u.2.2.2.2.2.2.2)
      (fun (u : Int32 × (Nat → Int32) × (Nat → Int32) × (Nat → Int32) × (Nat → Int32) × (Nat → Int32) × (Nat → Int32) × (Nat → Int32)) => WB ad ca T_length T_bytes C_size C_given C_empty u.1 C_draftedGiven u.2.1 u.2.2.1 u.2.2.2.1 u.2.2.2.2.1 u.2.2.2.2.2.1 u.2.2.2.2.2.2.1 u.2.2.2.2.2.2.2 C_needed R_kind R_place R_at R_token R_tokenPlace R_number R_state R_block R_positive R_negative R_left R_right R_pivot L_of F_cut F_labelledA F_labelledB F_row A_root A_words A_known G_size G_variable G_low G_high G_numberOf G_nodeOf G_sides G_waiting B_table B_nextTable) 0 0 := by
  refine x_entryv (own := R_C) (nm := "draftResolvent") (by decide) rfl rfl (Nat.le_of_ble_eq_true rfl) (fun p e s m below meth c A ls C0 hw hl => ?_)
  have hx := C0.1
  have hb := C0.2.1
  have hl : lv_has ls 4 [(0, .ref (ad 3)), (1, .int x1), (2, .int x2), (3, .int x3)] := hl
  unfold p_C_draftResolvent at h
  refine lv_aload_n hx hb d_C_draftResolvent_0 rfl (lv_at hl 0 rfl) ?_
  refine x_callVi C0 hw hl (c_C_hasRoom h) g_C_hasRoom wm_394 ⟨wm_396, wm_395⟩ 3 rfl rfl rfl (As := []) (rest := []) rfl rfl (Nat.le_of_ble_eq_true rfl) ⟨rfl, rfl⟩ ⟨Nat.le_of_ble_eq_true rfl, Nat.le_of_ble_eq_true rfl⟩ ⟨Nat.le_of_ble_eq_true rfl, Nat.le_of_ble_eq_true rfl⟩ d_C_draftResolvent_1 (fun r_1 u H locs h hw => ?_)
  refine lv_if_eq (tgt := 81) hx hb d_C_draftResolvent_4 (by decide) (fun c_2 => ?_) (fun c_2 => ?_)
  · have h := h.1 c_2
    exact x_vret C0 hw (C_drafted, C_block, C_left, C_right, C_pivot, C_positive, C_negative, C_live) h rfl d_C_draftResolvent_81
  · have h := h.2 c_2
    refine lv_aload_n hx hb d_C_draftResolvent_7 rfl (lv_at hl 0 rfl) ?_
    refine lv_iload_n hx hb d_C_draftResolvent_8 rfl (lv_at hl 1 rfl) ?_
    refine x_callVi C0 hw hl (c_C_isDrafted h) g_C_isDrafted wm_483 ⟨wm_438, wm_437⟩ 3 rfl rfl rfl (As := [.int x1]) (rest := []) rfl rfl (Nat.le_of_ble_eq_true rfl) ⟨rfl, rfl⟩ ⟨Nat.le_of_ble_eq_true rfl, Nat.le_of_ble_eq_true rfl⟩ ⟨Nat.le_of_ble_eq_true rfl, Nat.le_of_ble_eq_true rfl⟩ d_C_draftResolvent_9 (fun r_3 u H locs h hw => ?_)
    refine lv_if_eq (tgt := 81) hx hb d_C_draftResolvent_12 (by decide) (fun c_4 => ?_) (fun c_4 => ?_)
    · have h := h.1 c_4
      exact x_vret C0 hw (C_drafted, C_block, C_left, C_right, C_pivot, C_positive, C_negative, C_live) h rfl d_C_draftResolvent_81
    · have h := h.2 c_4
      refine lv_aload_n hx hb d_C_draftResolvent_15 rfl (lv_at hl 0 rfl) ?_
      refine lv_iload_n hx hb d_C_draftResolvent_16 rfl (lv_at hl 2 rfl) ?_
      refine x_callVi C0 hw hl (c_C_isDrafted h) g_C_isDrafted wm_483 ⟨wm_438, wm_437⟩ 3 rfl rfl rfl (As := [.int x2]) (rest := []) rfl rfl (Nat.le_of_ble_eq_true rfl) ⟨rfl, rfl⟩ ⟨Nat.le_of_ble_eq_true rfl, Nat.le_of_ble_eq_true rfl⟩ ⟨Nat.le_of_ble_eq_true rfl, Nat.le_of_ble_eq_true rfl⟩ d_C_draftResolvent_17 (fun r_5 u H locs h hw => ?_)
      refine lv_if_eq (tgt := 81) hx hb d_C_draftResolvent_20 (by decide) (fun c_6 => ?_) (fun c_6 => ?_)
      · have h := h.1 c_6
        exact x_vret C0 hw (C_drafted, C_block, C_left, C_right, C_pivot, C_positive, C_negative, C_live) h rfl d_C_draftResolvent_81
      · have h := h.2 c_6
        refine lv_aload_n hx hb d_C_draftResolvent_23 rfl (lv_at hl 0 rfl) ?_
        refine lv_aload_n hx hb d_C_draftResolvent_24 rfl (lv_at hl 0 rfl) ?_
        refine lv_iload_n hx hb d_C_draftResolvent_25 rfl (lv_at hl 1 rfl) ?_
        refine lv_iload_n hx hb d_C_draftResolvent_26 rfl (lv_at hl 2 rfl) ?_
        refine lv_iload_n hx hb d_C_draftResolvent_27 rfl (lv_at hl 3 rfl) ?_
        refine x_callVi C0 hw hl (c_C_positiveRest h) g_C_positiveRest wm_462 ⟨wm_16, wm_464⟩ 3 rfl rfl rfl (As := [.int x1, .int x2, .int x3]) (rest := [.ref (ad 3)]) rfl rfl (Nat.le_of_ble_eq_true rfl) ⟨rfl, rfl⟩ ⟨Nat.le_of_ble_eq_true rfl, Nat.le_of_ble_eq_true rfl⟩ ⟨Nat.le_of_ble_eq_true rfl, Nat.le_of_ble_eq_true rfl⟩ d_C_draftResolvent_28 (fun r_7 u H locs h hw => ?_)
        refine lv_aload_n hx hb d_C_draftResolvent_31 rfl (lv_at hl 0 rfl) ?_
        refine lv_iload_n hx hb d_C_draftResolvent_32 rfl (lv_at hl 1 rfl) ?_
        refine lv_iload_n hx hb d_C_draftResolvent_33 rfl (lv_at hl 2 rfl) ?_
        refine lv_iload_n hx hb d_C_draftResolvent_34 rfl (lv_at hl 3 rfl) ?_
        refine x_callVi C0 hw hl (c_C_negativeRest h) g_C_negativeRest wm_466 ⟨wm_17, wm_468⟩ 3 rfl rfl rfl (As := [.int x1, .int x2, .int x3]) (rest := [.int r_7, .ref (ad 3)]) rfl rfl (Nat.le_of_ble_eq_true rfl) ⟨rfl, rfl⟩ ⟨Nat.le_of_ble_eq_true rfl, Nat.le_of_ble_eq_true rfl⟩ ⟨Nat.le_of_ble_eq_true rfl, Nat.le_of_ble_eq_true rfl⟩ d_C_draftResolvent_35 (fun r_8 u H locs h hw => ?_)
        refine x_callVv C0 hw hl (c_C_draft h) g_C_draft wm_420 ⟨wm_10, wm_422⟩ 3 rfl rfl rfl (As := [.int r_7, .int r_8]) (rest := []) rfl rfl (Nat.le_of_ble_eq_true rfl) ⟨rfl, rfl⟩ ⟨Nat.le_of_ble_eq_true rfl, Nat.le_of_ble_eq_true rfl⟩ ⟨Nat.le_of_ble_eq_true rfl, Nat.le_of_ble_eq_true rfl⟩ d_C_draftResolvent_38 (fun u H locs h hw => ?_)
        obtain ⟨C_drafted_9, C_positive_10, C_negative_11, C_live_12⟩ := u
        refine lv_aload_n hx hb d_C_draftResolvent_41 rfl (lv_at hl 0 rfl) ?_
        refine x_get C0 hw 3 rfl rfl i_C 0 (by decide) wm_95 rfl rfl d_C_draftResolvent_42 ?_
        refine lv_aload_n hx hb d_C_draftResolvent_45 rfl (lv_at hl 0 rfl) ?_
        refine x_get C0 hw 3 rfl rfl i_C 11 (by decide) wm_126 rfl rfl d_C_draftResolvent_46 ?_
        refine lv_iconst (v := 0) hx hb d_C_draftResolvent_49 (by decide) ?_
        obtain ⟨hi_14, h⟩ := h
        refine x_iast C0 hw 4 rfl hi_14 (ws' := WB ad ca T_length T_bytes C_size C_given C_empty C_drafted_9 C_draftedGiven (upd C_block C_drafted_9.toNatClampNeg (0 : Int32)) C_left C_right C_pivot C_positive_10 C_negative_11 C_live_12 C_needed R_kind R_place R_at R_token R_tokenPlace R_number R_state R_block R_positive R_negative R_left R_right R_pivot L_of F_cut F_labelledA F_labelledB F_row A_root A_words A_known G_size G_variable G_low G_high G_numberOf G_nodeOf G_sides G_waiting B_table B_nextTable) rfl d_C_draftResolvent_50 (fun H locs hw => ?_)
        refine lv_aload_n hx hb d_C_draftResolvent_51 rfl (lv_at hl 0 rfl) ?_
        refine x_get C0 hw 3 rfl rfl i_C 1 (by decide) wm_98 rfl rfl d_C_draftResolvent_52 ?_
        refine lv_aload_n hx hb d_C_draftResolvent_55 rfl (lv_at hl 0 rfl) ?_
        refine x_get C0 hw 3 rfl rfl i_C 11 (by decide) wm_126 rfl rfl d_C_draftResolvent_56 ?_
        refine lv_iload_n hx hb d_C_draftResolvent_59 rfl (lv_at hl 1 rfl) ?_
        refine x_iast C0 hw 5 rfl hi_14 (ws' := WB ad ca T_length T_bytes C_size C_given C_empty C_drafted_9 C_draftedGiven (upd C_block C_drafted_9.toNatClampNeg (0 : Int32)) (upd C_left C_drafted_9.toNatClampNeg x1) C_right C_pivot C_positive_10 C_negative_11 C_live_12 C_needed R_kind R_place R_at R_token R_tokenPlace R_number R_state R_block R_positive R_negative R_left R_right R_pivot L_of F_cut F_labelledA F_labelledB F_row A_root A_words A_known G_size G_variable G_low G_high G_numberOf G_nodeOf G_sides G_waiting B_table B_nextTable) rfl d_C_draftResolvent_60 (fun H locs hw => ?_)
        refine lv_aload_n hx hb d_C_draftResolvent_61 rfl (lv_at hl 0 rfl) ?_
        refine x_get C0 hw 3 rfl rfl i_C 2 (by decide) wm_101 rfl rfl d_C_draftResolvent_62 ?_
        refine lv_aload_n hx hb d_C_draftResolvent_65 rfl (lv_at hl 0 rfl) ?_
        refine x_get C0 hw 3 rfl rfl i_C 11 (by decide) wm_126 rfl rfl d_C_draftResolvent_66 ?_
        refine lv_iload_n hx hb d_C_draftResolvent_69 rfl (lv_at hl 2 rfl) ?_
        refine x_iast C0 hw 6 rfl hi_14 (ws' := WB ad ca T_length T_bytes C_size C_given C_empty C_drafted_9 C_draftedGiven (upd C_block C_drafted_9.toNatClampNeg (0 : Int32)) (upd C_left C_drafted_9.toNatClampNeg x1) (upd C_right C_drafted_9.toNatClampNeg x2) C_pivot C_positive_10 C_negative_11 C_live_12 C_needed R_kind R_place R_at R_token R_tokenPlace R_number R_state R_block R_positive R_negative R_left R_right R_pivot L_of F_cut F_labelledA F_labelledB F_row A_root A_words A_known G_size G_variable G_low G_high G_numberOf G_nodeOf G_sides G_waiting B_table B_nextTable) rfl d_C_draftResolvent_70 (fun H locs hw => ?_)
        refine lv_aload_n hx hb d_C_draftResolvent_71 rfl (lv_at hl 0 rfl) ?_
        refine x_get C0 hw 3 rfl rfl i_C 3 (by decide) wm_104 rfl rfl d_C_draftResolvent_72 ?_
        refine lv_aload_n hx hb d_C_draftResolvent_75 rfl (lv_at hl 0 rfl) ?_
        refine x_get C0 hw 3 rfl rfl i_C 11 (by decide) wm_126 rfl rfl d_C_draftResolvent_76 ?_
        refine lv_iload_n hx hb d_C_draftResolvent_79 rfl (lv_at hl 3 rfl) ?_
        refine x_iast C0 hw 7 rfl hi_14 (ws' := WB ad ca T_length T_bytes C_size C_given C_empty C_drafted_9 C_draftedGiven (upd C_block C_drafted_9.toNatClampNeg (0 : Int32)) (upd C_left C_drafted_9.toNatClampNeg x1) (upd C_right C_drafted_9.toNatClampNeg x2) (upd C_pivot C_drafted_9.toNatClampNeg x3) C_positive_10 C_negative_11 C_live_12 C_needed R_kind R_place R_at R_token R_tokenPlace R_number R_state R_block R_positive R_negative R_left R_right R_pivot L_of F_cut F_labelledA F_labelledB F_row A_root A_words A_known G_size G_variable G_low G_high G_numberOf G_nodeOf G_sides G_waiting B_table B_nextTable) rfl d_C_draftResolvent_80 (fun H locs hw => ?_)
        exact x_vret C0 hw (C_drafted_9, (upd C_block C_drafted_9.toNatClampNeg (0 : Int32)), (upd C_left C_drafted_9.toNatClampNeg x1), (upd C_right C_drafted_9.toNatClampNeg x2), (upd C_pivot C_drafted_9.toNatClampNeg x3), C_positive_10, C_negative_11, C_live_12) h rfl d_C_draftResolvent_81
theorem g_C_findEmpty : GY y_C_findEmpty b_C_findEmpty 2 none 0 := ⟨wm_491, wm_55, by decide +kernel, by decide +kernel, by decide +kernel⟩
def p_C_findEmpty_L2 (C_size : Int32) (C_positive : Nat → Int32) (C_negative : Nat → Int32) (k : Int32 → Prop) : Nat → Int32 → Int32 → Prop
  | 0, _, _ => False
  | n + 1, x1, C_empty =>
    ((C_size < x1 → (k C_empty)) ∧ (¬ C_size < x1 → ((¬ C_empty = 0 → (k C_empty)) ∧ (C_empty = 0 → (vp_in x1 201 ∧ ((¬ ((C_positive x1.toNatClampNeg) ||| (C_negative x1.toNatClampNeg)) = 0 → (p_C_findEmpty_L2 C_size C_positive C_negative k n (x1 + 1) C_empty)) ∧ (((C_positive x1.toNatClampNeg) ||| (C_negative x1.toNatClampNeg)) = 0 → (p_C_findEmpty_L2 C_size C_positive C_negative k n (x1 + 1) x1))))))))
def p_C_findEmpty (C_size : Int32) (C_empty : Int32) (C_positive : Nat → Int32) (C_negative : Nat → Int32) (k : Int32 → Prop) : Prop :=
  (∃ j_5, p_C_findEmpty_L2 C_size C_positive C_negative k j_5 (1 : Int32) C_empty)
abbrev rm_C_findEmpty : Room := { frames := 0, cells := 0, slots := 0, locals := 0 }
set_option maxHeartbeats 4000000 in
set_option maxRecDepth 100000 in
theorem b_C_findEmpty_L2 {p : Program} {l : Launch} {e : Env} {s : State} {m : MethodId} {args : Array Value} {below : List Frame} {meth : Method} {c : Code} {D : va_G} {ca : Nat → ClassId} {tp : Nat} {A : Nat → Prop} {ad : Nat → Nat} {T_length : Int32} {T_bytes : Nat → Int32} {C_size : Int32} {C_given : Int32} {C_drafted : Int32} {C_draftedGiven : Int32} {C_block : Nat → Int32} {C_left : Nat → Int32} {C_right : Nat → Int32} {C_pivot : Nat → Int32} {C_positive : Nat → Int32} {C_negative : Nat → Int32} {C_live : Nat → Int32} {C_needed : Nat → Int32} {R_kind : Int32} {R_place : Int32} {R_at : Int32} {R_token : Int32} {R_tokenPlace : Int32} {R_number : Int32} {R_state : Int32} {R_block : Int32} {R_positive : Int32} {R_negative : Int32} {R_left : Int32} {R_right : Int32} {R_pivot : Int32} {L_of : Nat → Int32} {F_cut : Int32} {F_labelledA : Int32} {F_labelledB : Int32} {F_row : Nat → Int64} {A_root : Int32} {A_words : Nat → Int64} {A_known : Nat → Int32} {G_size : Int32} {G_variable : Nat → Int32} {G_low : Nat → Int32} {G_high : Nat → Int32} {G_numberOf : Nat → Int32} {G_nodeOf : Nat → Int32} {G_sides : Nat → Int32} {G_waiting : Nat → Int32} {B_table : Nat → Int64} {B_nextTable : Nat → Int64}  {k : Int32 → Prop}  (C0 : CX p s m args meth c b_C_findEmpty 2 none R_C "findEmpty" D ca tp A) :
    ∀ (n : Nat) (x1 : Int32) (C_empty : Int32) {H : Heap} {locs : List Loc} {ls : Array Slot}, p_C_findEmpty_L2 C_size C_positive C_negative k n x1 C_empty → WH D A s (WB ad ca T_length T_bytes C_size C_given C_empty C_drafted C_draftedGiven C_block C_left C_right C_pivot C_positive C_negative C_live C_needed R_kind R_place R_at R_token R_tokenPlace R_number R_state R_block R_positive R_negative R_left R_right R_pivot L_of F_cut F_labelledA F_labelledB F_row A_root A_words A_known G_size G_variable G_low G_high G_numberOf G_nodeOf G_sides G_waiting B_table B_nextTable) H locs → lv_has ls 2 [(0, .ref (ad 3)), (1, .int x1)] →
      W p l e rm_C_findEmpty s m args below meth c H locs 0 0 (QV D A below args s (fun (u : Int32) => k u) (fun (u : Int32) => WB ad ca T_length T_bytes C_size C_given u C_drafted C_draftedGiven C_block C_left C_right C_pivot C_positive C_negative C_live C_needed R_kind R_place R_at R_token R_tokenPlace R_number R_state R_block R_positive R_negative R_left R_right R_pivot L_of F_cut F_labelledA F_labelledB F_row A_root A_words A_known G_size G_variable G_low G_high G_numberOf G_nodeOf G_sides G_waiting B_table B_nextTable) 0 0) (F0 m 2 ls []) := by
  have hx := C0.1
  have hb := C0.2.1
  intro n
  induction n with
  | zero =>
    intro x1 C_empty H locs ls h
    exact False.elim h
  | succ n ih =>
    intro x1 C_empty H locs ls h hw hl
    unfold p_C_findEmpty_L2 at h
    refine lv_iload_n hx hb d_C_findEmpty_2 rfl (lv_at hl 1 rfl) ?_
    refine lv_aload_n hx hb d_C_findEmpty_3 rfl (lv_at hl 0 rfl) ?_
    refine x_get C0 hw 3 rfl rfl i_C 8 (by decide) wm_118 rfl rfl d_C_findEmpty_4 ?_
    refine lv_icmp_gt (tgt := 44) hx hb d_C_findEmpty_7 (by decide) (fun c_1 => ?_) (fun c_1 => ?_)
    · have h := h.1 c_1
      exact x_vret C0 hw C_empty h rfl d_C_findEmpty_44
    · have h := h.2 c_1
      refine lv_aload_n hx hb d_C_findEmpty_10 rfl (lv_at hl 0 rfl) ?_
      refine x_get C0 hw 3 rfl rfl i_C 10 (by decide) wm_125 rfl rfl d_C_findEmpty_11 ?_
      refine lv_if_ne (tgt := 44) hx hb d_C_findEmpty_14 (by decide) (fun c_2 => ?_) (fun c_2 => ?_)
      · have h := h.1 c_2
        exact x_vret C0 hw C_empty h rfl d_C_findEmpty_44
      · have h := h.2 c_2
        refine lv_aload_n hx hb d_C_findEmpty_17 rfl (lv_at hl 0 rfl) ?_
        refine x_get C0 hw 3 rfl rfl i_C 4 (by decide) wm_107 rfl rfl d_C_findEmpty_18 ?_
        refine lv_iload_n hx hb d_C_findEmpty_21 rfl (lv_at hl 1 rfl) ?_
        obtain ⟨hi_3, h⟩ := h
        refine x_iald C0 hw 8 rfl hi_3 d_C_findEmpty_22 ?_
        refine lv_aload_n hx hb d_C_findEmpty_23 rfl (lv_at hl 0 rfl) ?_
        refine x_get C0 hw 3 rfl rfl i_C 5 (by decide) wm_110 rfl rfl d_C_findEmpty_24 ?_
        refine lv_iload_n hx hb d_C_findEmpty_27 rfl (lv_at hl 1 rfl) ?_
        refine x_iald C0 hw 9 rfl hi_3 d_C_findEmpty_28 ?_
        refine lv_ior hx hb d_C_findEmpty_29 ?_
        refine lv_if_ne (tgt := 38) hx hb d_C_findEmpty_30 (by decide) (fun c_4 => ?_) (fun c_4 => ?_)
        · have h := h.1 c_4
          refine lv_iinc (v := (x1 + 1)) (lv' := [(1, .int (x1 + 1)), (0, .ref (ad 3))]) hx hb d_C_findEmpty_38 hl (k := 1) rfl rfl (by decide) rfl (fun ls hl => ?_)
          refine lv_goto (tgt := 2) hx hb d_C_findEmpty_41 (by decide) ?_
          exact ih _ _ h hw (lv_sub hl [1, 0] rfl)
        · have h := h.2 c_4
          refine lv_aload_n hx hb d_C_findEmpty_33 rfl (lv_at hl 0 rfl) ?_
          refine lv_iload_n hx hb d_C_findEmpty_34 rfl (lv_at hl 1 rfl) ?_
          refine x_put C0 hw 3 rfl rfl i_C tk_C n_C 10 (by decide) wm_125 rfl rfl rfl rfl (Nat.le_of_ble_eq_true rfl) (ws' := WB ad ca T_length T_bytes C_size C_given x1 C_drafted C_draftedGiven C_block C_left C_right C_pivot C_positive C_negative C_live C_needed R_kind R_place R_at R_token R_tokenPlace R_number R_state R_block R_positive R_negative R_left R_right R_pivot L_of F_cut F_labelledA F_labelledB F_row A_root A_words A_known G_size G_variable G_low G_high G_numberOf G_nodeOf G_sides G_waiting B_table B_nextTable) rfl d_C_findEmpty_35 (fun H locs hw => ?_)
          refine lv_iinc (v := (x1 + 1)) (lv' := [(1, .int (x1 + 1)), (0, .ref (ad 3))]) hx hb d_C_findEmpty_38 hl (k := 1) rfl rfl (by decide) rfl (fun ls hl => ?_)
          refine lv_goto (tgt := 2) hx hb d_C_findEmpty_41 (by decide) ?_
          exact ih _ _ h hw (lv_sub hl [1, 0] rfl)
set_option maxHeartbeats 4000000 in
set_option maxRecDepth 100000 in
theorem c_C_findEmpty {l : Launch} {D : va_G} {ca : Nat → ClassId} {tp : Nat} {ad : Nat → Nat} {T_length : Int32} {T_bytes : Nat → Int32} {C_size : Int32} {C_given : Int32} {C_empty : Int32} {C_drafted : Int32} {C_draftedGiven : Int32} {C_block : Nat → Int32} {C_left : Nat → Int32} {C_right : Nat → Int32} {C_pivot : Nat → Int32} {C_positive : Nat → Int32} {C_negative : Nat → Int32} {C_live : Nat → Int32} {C_needed : Nat → Int32} {R_kind : Int32} {R_place : Int32} {R_at : Int32} {R_token : Int32} {R_tokenPlace : Int32} {R_number : Int32} {R_state : Int32} {R_block : Int32} {R_positive : Int32} {R_negative : Int32} {R_left : Int32} {R_right : Int32} {R_pivot : Int32} {L_of : Nat → Int32} {F_cut : Int32} {F_labelledA : Int32} {F_labelledB : Int32} {F_row : Nat → Int64} {A_root : Int32} {A_words : Nat → Int64} {A_known : Nat → Int32} {G_size : Int32} {G_variable : Nat → Int32} {G_low : Nat → Int32} {G_high : Nat → Int32} {G_numberOf : Nat → Int32} {G_nodeOf : Nat → Int32} {G_sides : Nat → Int32} {G_waiting : Nat → Int32} {B_table : Nat → Int64} {B_nextTable : Nat → Int64}  {k : Int32 → Prop} (h : p_C_findEmpty C_size C_empty C_positive C_negative k) :
    MTv l y_C_findEmpty b_C_findEmpty 2 none rm_C_findEmpty D ca tp [.ref (ad 3)] (WB ad ca T_length T_bytes C_size C_given C_empty C_drafted C_draftedGiven C_block C_left C_right C_pivot C_positive C_negative C_live C_needed R_kind R_place R_at R_token R_tokenPlace R_number R_state R_block R_positive R_negative R_left R_right R_pivot L_of F_cut F_labelledA F_labelledB F_row A_root A_words A_known G_size G_variable G_low G_high G_numberOf G_nodeOf G_sides G_waiting B_table B_nextTable)
      (fun (u : Int32) => k u)
      (fun (u : Int32) => WB ad ca T_length T_bytes C_size C_given u C_drafted C_draftedGiven C_block C_left C_right C_pivot C_positive C_negative C_live C_needed R_kind R_place R_at R_token R_tokenPlace R_number R_state R_block R_positive R_negative R_left R_right R_pivot L_of F_cut F_labelledA F_labelledB F_row A_root A_words A_known G_size G_variable G_low G_high G_numberOf G_nodeOf G_sides G_waiting B_table B_nextTable) 0 0 := by
  refine x_entryv (own := R_C) (nm := "findEmpty") (by decide) rfl rfl (Nat.le_of_ble_eq_true rfl) (fun p e s m below meth c A ls C0 hw hl => ?_)
  have hx := C0.1
  have hb := C0.2.1
  have hl : lv_has ls 2 [(0, .ref (ad 3))] := hl
  unfold p_C_findEmpty at h
  refine lv_iconst (v := 1) hx hb d_C_findEmpty_0 (by decide) ?_
  refine lv_istore_n (lv' := [(1, .int (1 : Int32)), (0, .ref (ad 3))]) hx hb d_C_findEmpty_1 rfl hl (by decide) rfl (fun ls hl => ?_)
  obtain ⟨j_5, h⟩ := h
  refine b_C_findEmpty_L2 C0 _ _ _ h hw (lv_sub hl [1, 0] rfl)
theorem g_C_markNeeded : GY y_C_markNeeded b_C_markNeeded 2 none 0 := ⟨wm_495, wm_55, by decide +kernel, by decide +kernel, by decide +kernel⟩
def p_C_markNeeded_L2 (C_empty : Int32) (k38 : (Nat → Int32) → Prop) : Nat → Int32 → (Nat → Int32) → Prop
  | 0, _, _ => False
  | n + 1, x1, C_needed =>
    (((200 : Int32) < x1 → (k38 C_needed)) ∧ (¬ (200 : Int32) < x1 → ((x1 = 0 → (vp_in x1 201 ∧ (p_C_markNeeded_L2 C_empty k38 n (x1 + 1) (upd C_needed x1.toNatClampNeg (0 : Int32))))) ∧ (¬ x1 = 0 → ((¬ x1 = C_empty → (vp_in x1 201 ∧ (p_C_markNeeded_L2 C_empty k38 n (x1 + 1) (upd C_needed x1.toNatClampNeg (0 : Int32))))) ∧ (x1 = C_empty → (vp_in x1 201 ∧ (p_C_markNeeded_L2 C_empty k38 n (x1 + 1) (upd C_needed x1.toNatClampNeg (1 : Int32))))))))))
def p_C_markNeeded_L43 (C_block : Nat → Int32) (C_left : Nat → Int32) (C_right : Nat → Int32) (k : (Nat → Int32) → Prop) : Nat → Int32 → (Nat → Int32) → Prop
  | 0, _, _ => False
  | n + 1, x1, C_needed =>
    ((x1 < (1 : Int32) → (k C_needed)) ∧ (¬ x1 < (1 : Int32) → (vp_in x1 201 ∧ (((C_needed x1.toNatClampNeg) = 0 → (p_C_markNeeded_L43 C_block C_left C_right k n (x1 + (-1)) C_needed)) ∧ (¬ (C_needed x1.toNatClampNeg) = 0 → ((¬ (C_block x1.toNatClampNeg) = 0 → (p_C_markNeeded_L43 C_block C_left C_right k n (x1 + (-1)) C_needed)) ∧ ((C_block x1.toNatClampNeg) = 0 → (vp_in (C_left x1.toNatClampNeg) 201 ∧ (vp_in (C_right x1.toNatClampNeg) 201 ∧ (p_C_markNeeded_L43 C_block C_left C_right k n (x1 + (-1)) (upd (upd C_needed (C_left x1.toNatClampNeg).toNatClampNeg (1 : Int32)) (C_right x1.toNatClampNeg).toNatClampNeg (1 : Int32))))))))))))
def p_C_markNeeded (C_empty : Int32) (C_block : Nat → Int32) (C_left : Nat → Int32) (C_right : Nat → Int32) (C_needed : Nat → Int32) (k : (Nat → Int32) → Prop) : Prop :=
  (∃ j_15, p_C_markNeeded_L2 C_empty (fun (C_needed_7 : Nat → Int32) => (∃ j_14, p_C_markNeeded_L43 C_block C_left C_right k j_14 C_empty C_needed_7)) j_15 (0 : Int32) C_needed)
abbrev rm_C_markNeeded : Room := { frames := 0, cells := 0, slots := 0, locals := 0 }
set_option maxHeartbeats 4000000 in
set_option maxRecDepth 100000 in
theorem b_C_markNeeded_L2 {p : Program} {l : Launch} {e : Env} {s : State} {m : MethodId} {args : Array Value} {below : List Frame} {meth : Method} {c : Code} {D : va_G} {ca : Nat → ClassId} {tp : Nat} {A : Nat → Prop} {ad : Nat → Nat} {T_length : Int32} {T_bytes : Nat → Int32} {C_size : Int32} {C_given : Int32} {C_empty : Int32} {C_drafted : Int32} {C_draftedGiven : Int32} {C_block : Nat → Int32} {C_left : Nat → Int32} {C_right : Nat → Int32} {C_pivot : Nat → Int32} {C_positive : Nat → Int32} {C_negative : Nat → Int32} {C_live : Nat → Int32} {R_kind : Int32} {R_place : Int32} {R_at : Int32} {R_token : Int32} {R_tokenPlace : Int32} {R_number : Int32} {R_state : Int32} {R_block : Int32} {R_positive : Int32} {R_negative : Int32} {R_left : Int32} {R_right : Int32} {R_pivot : Int32} {L_of : Nat → Int32} {F_cut : Int32} {F_labelledA : Int32} {F_labelledB : Int32} {F_row : Nat → Int64} {A_root : Int32} {A_words : Nat → Int64} {A_known : Nat → Int32} {G_size : Int32} {G_variable : Nat → Int32} {G_low : Nat → Int32} {G_high : Nat → Int32} {G_numberOf : Nat → Int32} {G_nodeOf : Nat → Int32} {G_sides : Nat → Int32} {G_waiting : Nat → Int32} {B_table : Nat → Int64} {B_nextTable : Nat → Int64}  {k : (Nat → Int32) → Prop} {k38 : (Nat → Int32) → Prop} (C0 : CX p s m args meth c b_C_markNeeded 2 none R_C "markNeeded" D ca tp A) :
    ∀ (n : Nat) (x1 : Int32) (C_needed : Nat → Int32) {H : Heap} {locs : List Loc} {ls : Array Slot}, p_C_markNeeded_L2 C_empty k38 n x1 C_needed → WH D A s (WB ad ca T_length T_bytes C_size C_given C_empty C_drafted C_draftedGiven C_block C_left C_right C_pivot C_positive C_negative C_live C_needed R_kind R_place R_at R_token R_tokenPlace R_number R_state R_block R_positive R_negative R_left R_right R_pivot L_of F_cut F_labelledA F_labelledB F_row A_root A_words A_known G_size G_variable G_low G_high G_numberOf G_nodeOf G_sides G_waiting B_table B_nextTable) H locs → lv_has ls 2 [(0, .ref (ad 3)), (1, .int x1)] →
      (∀ (C_needed : Nat → Int32) (H : Heap) (locs : List Loc) (ls : Array Slot), k38 C_needed → WH D A s (WB ad ca T_length T_bytes C_size C_given C_empty C_drafted C_draftedGiven C_block C_left C_right C_pivot C_positive C_negative C_live C_needed R_kind R_place R_at R_token R_tokenPlace R_number R_state R_block R_positive R_negative R_left R_right R_pivot L_of F_cut F_labelledA F_labelledB F_row A_root A_words A_known G_size G_variable G_low G_high G_numberOf G_nodeOf G_sides G_waiting B_table B_nextTable) H locs → lv_has ls 2 [(0, .ref (ad 3))] → W p l e rm_C_markNeeded s m args below meth c H locs 0 0 (QV D A below args s (fun (u : (Nat → Int32)) => k u) (fun (u : (Nat → Int32)) => WB ad ca T_length T_bytes C_size C_given C_empty C_drafted C_draftedGiven C_block C_left C_right C_pivot C_positive C_negative C_live u R_kind R_place R_at R_token R_tokenPlace R_number R_state R_block R_positive R_negative R_left R_right R_pivot L_of F_cut F_labelledA F_labelledB F_row A_root A_words A_known G_size G_variable G_low G_high G_numberOf G_nodeOf G_sides G_waiting B_table B_nextTable) 0 0) (F0 m 38 ls [])) →
      W p l e rm_C_markNeeded s m args below meth c H locs 0 0 (QV D A below args s (fun (u : (Nat → Int32)) => k u) (fun (u : (Nat → Int32)) => WB ad ca T_length T_bytes C_size C_given C_empty C_drafted C_draftedGiven C_block C_left C_right C_pivot C_positive C_negative C_live u R_kind R_place R_at R_token R_tokenPlace R_number R_state R_block R_positive R_negative R_left R_right R_pivot L_of F_cut F_labelledA F_labelledB F_row A_root A_words A_known G_size G_variable G_low G_high G_numberOf G_nodeOf G_sides G_waiting B_table B_nextTable) 0 0) (F0 m 2 ls []) := by
  have hx := C0.1
  have hb := C0.2.1
  intro n
  induction n with
  | zero =>
    intro x1 C_needed H locs ls h
    exact False.elim h
  | succ n ih =>
    intro x1 C_needed H locs ls h hw hl h38
    unfold p_C_markNeeded_L2 at h
    refine lv_iload_n hx hb d_C_markNeeded_2 rfl (lv_at hl 1 rfl) ?_
    refine lv_sipush (v := 200) hx hb d_C_markNeeded_3 (by decide) ?_
    refine lv_icmp_gt (tgt := 38) hx hb d_C_markNeeded_6 (by decide) (fun c_1 => ?_) (fun c_1 => ?_)
    · have h := h.1 c_1
      exact h38 _ _ _ _ h hw (lv_sub hl [0] rfl)
    · have h := h.2 c_1
      refine lv_aload_n hx hb d_C_markNeeded_9 rfl (lv_at hl 0 rfl) ?_
      refine x_get C0 hw 3 rfl rfl i_C 7 (by decide) wm_114 rfl rfl d_C_markNeeded_10 ?_
      refine lv_iload_n hx hb d_C_markNeeded_13 rfl (lv_at hl 1 rfl) ?_
      refine lv_iload_n hx hb d_C_markNeeded_14 rfl (lv_at hl 1 rfl) ?_
      refine lv_if_eq (tgt := 30) hx hb d_C_markNeeded_15 (by decide) (fun c_2 => ?_) (fun c_2 => ?_)
      · have h := h.1 c_2
        refine lv_iconst (v := 0) hx hb d_C_markNeeded_30 (by decide) ?_
        obtain ⟨hi_3, h⟩ := h
        refine x_zast C0 hw 11 rfl hi_3 (ws' := WB ad ca T_length T_bytes C_size C_given C_empty C_drafted C_draftedGiven C_block C_left C_right C_pivot C_positive C_negative C_live (upd C_needed x1.toNatClampNeg (0 : Int32)) R_kind R_place R_at R_token R_tokenPlace R_number R_state R_block R_positive R_negative R_left R_right R_pivot L_of F_cut F_labelledA F_labelledB F_row A_root A_words A_known G_size G_variable G_low G_high G_numberOf G_nodeOf G_sides G_waiting B_table B_nextTable) rfl d_C_markNeeded_31 (fun H locs hw => ?_)
        refine lv_iinc (v := (x1 + 1)) (lv' := [(1, .int (x1 + 1)), (0, .ref (ad 3))]) hx hb d_C_markNeeded_32 hl (k := 1) rfl rfl (by decide) rfl (fun ls hl => ?_)
        refine lv_goto (tgt := 2) hx hb d_C_markNeeded_35 (by decide) ?_
        exact ih _ _ h hw (lv_sub hl [1, 0] rfl) h38
      · have h := h.2 c_2
        refine lv_iload_n hx hb d_C_markNeeded_18 rfl (lv_at hl 1 rfl) ?_
        refine lv_aload_n hx hb d_C_markNeeded_19 rfl (lv_at hl 0 rfl) ?_
        refine x_get C0 hw 3 rfl rfl i_C 10 (by decide) wm_125 rfl rfl d_C_markNeeded_20 ?_
        refine lv_icmp_ne (tgt := 30) hx hb d_C_markNeeded_23 (by decide) (fun c_4 => ?_) (fun c_4 => ?_)
        · have h := h.1 c_4
          refine lv_iconst (v := 0) hx hb d_C_markNeeded_30 (by decide) ?_
          obtain ⟨hi_5, h⟩ := h
          refine x_zast C0 hw 11 rfl hi_5 (ws' := WB ad ca T_length T_bytes C_size C_given C_empty C_drafted C_draftedGiven C_block C_left C_right C_pivot C_positive C_negative C_live (upd C_needed x1.toNatClampNeg (0 : Int32)) R_kind R_place R_at R_token R_tokenPlace R_number R_state R_block R_positive R_negative R_left R_right R_pivot L_of F_cut F_labelledA F_labelledB F_row A_root A_words A_known G_size G_variable G_low G_high G_numberOf G_nodeOf G_sides G_waiting B_table B_nextTable) rfl d_C_markNeeded_31 (fun H locs hw => ?_)
          refine lv_iinc (v := (x1 + 1)) (lv' := [(1, .int (x1 + 1)), (0, .ref (ad 3))]) hx hb d_C_markNeeded_32 hl (k := 1) rfl rfl (by decide) rfl (fun ls hl => ?_)
          refine lv_goto (tgt := 2) hx hb d_C_markNeeded_35 (by decide) ?_
          exact ih _ _ h hw (lv_sub hl [1, 0] rfl) h38
        · have h := h.2 c_4
          refine lv_iconst (v := 1) hx hb d_C_markNeeded_26 (by decide) ?_
          refine lv_goto (tgt := 31) hx hb d_C_markNeeded_27 (by decide) ?_
          obtain ⟨hi_6, h⟩ := h
          refine x_zast C0 hw 11 rfl hi_6 (ws' := WB ad ca T_length T_bytes C_size C_given C_empty C_drafted C_draftedGiven C_block C_left C_right C_pivot C_positive C_negative C_live (upd C_needed x1.toNatClampNeg (1 : Int32)) R_kind R_place R_at R_token R_tokenPlace R_number R_state R_block R_positive R_negative R_left R_right R_pivot L_of F_cut F_labelledA F_labelledB F_row A_root A_words A_known G_size G_variable G_low G_high G_numberOf G_nodeOf G_sides G_waiting B_table B_nextTable) rfl d_C_markNeeded_31 (fun H locs hw => ?_)
          refine lv_iinc (v := (x1 + 1)) (lv' := [(1, .int (x1 + 1)), (0, .ref (ad 3))]) hx hb d_C_markNeeded_32 hl (k := 1) rfl rfl (by decide) rfl (fun ls hl => ?_)
          refine lv_goto (tgt := 2) hx hb d_C_markNeeded_35 (by decide) ?_
          exact ih _ _ h hw (lv_sub hl [1, 0] rfl) h38
set_option maxHeartbeats 4000000 in
set_option maxRecDepth 100000 in
theorem b_C_markNeeded_L43 {p : Program} {l : Launch} {e : Env} {s : State} {m : MethodId} {args : Array Value} {below : List Frame} {meth : Method} {c : Code} {D : va_G} {ca : Nat → ClassId} {tp : Nat} {A : Nat → Prop} {ad : Nat → Nat} {T_length : Int32} {T_bytes : Nat → Int32} {C_size : Int32} {C_given : Int32} {C_empty : Int32} {C_drafted : Int32} {C_draftedGiven : Int32} {C_block : Nat → Int32} {C_left : Nat → Int32} {C_right : Nat → Int32} {C_pivot : Nat → Int32} {C_positive : Nat → Int32} {C_negative : Nat → Int32} {C_live : Nat → Int32} {R_kind : Int32} {R_place : Int32} {R_at : Int32} {R_token : Int32} {R_tokenPlace : Int32} {R_number : Int32} {R_state : Int32} {R_block : Int32} {R_positive : Int32} {R_negative : Int32} {R_left : Int32} {R_right : Int32} {R_pivot : Int32} {L_of : Nat → Int32} {F_cut : Int32} {F_labelledA : Int32} {F_labelledB : Int32} {F_row : Nat → Int64} {A_root : Int32} {A_words : Nat → Int64} {A_known : Nat → Int32} {G_size : Int32} {G_variable : Nat → Int32} {G_low : Nat → Int32} {G_high : Nat → Int32} {G_numberOf : Nat → Int32} {G_nodeOf : Nat → Int32} {G_sides : Nat → Int32} {G_waiting : Nat → Int32} {B_table : Nat → Int64} {B_nextTable : Nat → Int64}  {k : (Nat → Int32) → Prop}  (C0 : CX p s m args meth c b_C_markNeeded 2 none R_C "markNeeded" D ca tp A) :
    ∀ (n : Nat) (x1 : Int32) (C_needed : Nat → Int32) {H : Heap} {locs : List Loc} {ls : Array Slot}, p_C_markNeeded_L43 C_block C_left C_right k n x1 C_needed → WH D A s (WB ad ca T_length T_bytes C_size C_given C_empty C_drafted C_draftedGiven C_block C_left C_right C_pivot C_positive C_negative C_live C_needed R_kind R_place R_at R_token R_tokenPlace R_number R_state R_block R_positive R_negative R_left R_right R_pivot L_of F_cut F_labelledA F_labelledB F_row A_root A_words A_known G_size G_variable G_low G_high G_numberOf G_nodeOf G_sides G_waiting B_table B_nextTable) H locs → lv_has ls 2 [(0, .ref (ad 3)), (1, .int x1)] →
      W p l e rm_C_markNeeded s m args below meth c H locs 0 0 (QV D A below args s (fun (u : (Nat → Int32)) => k u) (fun (u : (Nat → Int32)) => WB ad ca T_length T_bytes C_size C_given C_empty C_drafted C_draftedGiven C_block C_left C_right C_pivot C_positive C_negative C_live u R_kind R_place R_at R_token R_tokenPlace R_number R_state R_block R_positive R_negative R_left R_right R_pivot L_of F_cut F_labelledA F_labelledB F_row A_root A_words A_known G_size G_variable G_low G_high G_numberOf G_nodeOf G_sides G_waiting B_table B_nextTable) 0 0) (F0 m 43 ls []) := by
  have hx := C0.1
  have hb := C0.2.1
  intro n
  induction n with
  | zero =>
    intro x1 C_needed H locs ls h
    exact False.elim h
  | succ n ih =>
    intro x1 C_needed H locs ls h hw hl
    unfold p_C_markNeeded_L43 at h
    refine lv_iload_n hx hb d_C_markNeeded_43 rfl (lv_at hl 1 rfl) ?_
    refine lv_iconst (v := 1) hx hb d_C_markNeeded_44 (by decide) ?_
    refine lv_icmp_lt (tgt := 96) hx hb d_C_markNeeded_45 (by decide) (fun c_8 => ?_) (fun c_8 => ?_)
    · have h := h.1 c_8
      exact x_vret C0 hw C_needed h rfl d_C_markNeeded_96
    · have h := h.2 c_8
      refine lv_aload_n hx hb d_C_markNeeded_48 rfl (lv_at hl 0 rfl) ?_
      refine x_get C0 hw 3 rfl rfl i_C 7 (by decide) wm_114 rfl rfl d_C_markNeeded_49 ?_
      refine lv_iload_n hx hb d_C_markNeeded_52 rfl (lv_at hl 1 rfl) ?_
      obtain ⟨hi_9, h⟩ := h
      refine x_zald C0 hw 11 rfl hi_9 d_C_markNeeded_53 ?_
      refine lv_if_eq (tgt := 90) hx hb d_C_markNeeded_54 (by decide) (fun c_10 => ?_) (fun c_10 => ?_)
      · have h := h.1 c_10
        refine lv_iinc (v := (x1 + (-1))) (lv' := [(1, .int (x1 + (-1))), (0, .ref (ad 3))]) hx hb d_C_markNeeded_90 hl (k := 1) rfl rfl (by decide) rfl (fun ls hl => ?_)
        refine lv_goto (tgt := 43) hx hb d_C_markNeeded_93 (by decide) ?_
        exact ih _ _ h hw (lv_sub hl [1, 0] rfl)
      · have h := h.2 c_10
        refine lv_aload_n hx hb d_C_markNeeded_57 rfl (lv_at hl 0 rfl) ?_
        refine x_get C0 hw 3 rfl rfl i_C 0 (by decide) wm_95 rfl rfl d_C_markNeeded_58 ?_
        refine lv_iload_n hx hb d_C_markNeeded_61 rfl (lv_at hl 1 rfl) ?_
        refine x_iald C0 hw 4 rfl hi_9 d_C_markNeeded_62 ?_
        refine lv_if_ne (tgt := 90) hx hb d_C_markNeeded_63 (by decide) (fun c_11 => ?_) (fun c_11 => ?_)
        · have h := h.1 c_11
          refine lv_iinc (v := (x1 + (-1))) (lv' := [(1, .int (x1 + (-1))), (0, .ref (ad 3))]) hx hb d_C_markNeeded_90 hl (k := 1) rfl rfl (by decide) rfl (fun ls hl => ?_)
          refine lv_goto (tgt := 43) hx hb d_C_markNeeded_93 (by decide) ?_
          exact ih _ _ h hw (lv_sub hl [1, 0] rfl)
        · have h := h.2 c_11
          refine lv_aload_n hx hb d_C_markNeeded_66 rfl (lv_at hl 0 rfl) ?_
          refine x_get C0 hw 3 rfl rfl i_C 7 (by decide) wm_114 rfl rfl d_C_markNeeded_67 ?_
          refine lv_aload_n hx hb d_C_markNeeded_70 rfl (lv_at hl 0 rfl) ?_
          refine x_get C0 hw 3 rfl rfl i_C 1 (by decide) wm_98 rfl rfl d_C_markNeeded_71 ?_
          refine lv_iload_n hx hb d_C_markNeeded_74 rfl (lv_at hl 1 rfl) ?_
          refine x_iald C0 hw 5 rfl hi_9 d_C_markNeeded_75 ?_
          refine lv_iconst (v := 1) hx hb d_C_markNeeded_76 (by decide) ?_
          obtain ⟨hi_12, h⟩ := h
          refine x_zast C0 hw 11 rfl hi_12 (ws' := WB ad ca T_length T_bytes C_size C_given C_empty C_drafted C_draftedGiven C_block C_left C_right C_pivot C_positive C_negative C_live (upd C_needed (C_left x1.toNatClampNeg).toNatClampNeg (1 : Int32)) R_kind R_place R_at R_token R_tokenPlace R_number R_state R_block R_positive R_negative R_left R_right R_pivot L_of F_cut F_labelledA F_labelledB F_row A_root A_words A_known G_size G_variable G_low G_high G_numberOf G_nodeOf G_sides G_waiting B_table B_nextTable) rfl d_C_markNeeded_77 (fun H locs hw => ?_)
          refine lv_aload_n hx hb d_C_markNeeded_78 rfl (lv_at hl 0 rfl) ?_
          refine x_get C0 hw 3 rfl rfl i_C 7 (by decide) wm_114 rfl rfl d_C_markNeeded_79 ?_
          refine lv_aload_n hx hb d_C_markNeeded_82 rfl (lv_at hl 0 rfl) ?_
          refine x_get C0 hw 3 rfl rfl i_C 2 (by decide) wm_101 rfl rfl d_C_markNeeded_83 ?_
          refine lv_iload_n hx hb d_C_markNeeded_86 rfl (lv_at hl 1 rfl) ?_
          refine x_iald C0 hw 6 rfl hi_9 d_C_markNeeded_87 ?_
          refine lv_iconst (v := 1) hx hb d_C_markNeeded_88 (by decide) ?_
          obtain ⟨hi_13, h⟩ := h
          refine x_zast C0 hw 11 rfl hi_13 (ws' := WB ad ca T_length T_bytes C_size C_given C_empty C_drafted C_draftedGiven C_block C_left C_right C_pivot C_positive C_negative C_live (upd (upd C_needed (C_left x1.toNatClampNeg).toNatClampNeg (1 : Int32)) (C_right x1.toNatClampNeg).toNatClampNeg (1 : Int32)) R_kind R_place R_at R_token R_tokenPlace R_number R_state R_block R_positive R_negative R_left R_right R_pivot L_of F_cut F_labelledA F_labelledB F_row A_root A_words A_known G_size G_variable G_low G_high G_numberOf G_nodeOf G_sides G_waiting B_table B_nextTable) rfl d_C_markNeeded_89 (fun H locs hw => ?_)
          refine lv_iinc (v := (x1 + (-1))) (lv' := [(1, .int (x1 + (-1))), (0, .ref (ad 3))]) hx hb d_C_markNeeded_90 hl (k := 1) rfl rfl (by decide) rfl (fun ls hl => ?_)
          refine lv_goto (tgt := 43) hx hb d_C_markNeeded_93 (by decide) ?_
          exact ih _ _ h hw (lv_sub hl [1, 0] rfl)
set_option maxHeartbeats 4000000 in
set_option maxRecDepth 100000 in
theorem c_C_markNeeded {l : Launch} {D : va_G} {ca : Nat → ClassId} {tp : Nat} {ad : Nat → Nat} {T_length : Int32} {T_bytes : Nat → Int32} {C_size : Int32} {C_given : Int32} {C_empty : Int32} {C_drafted : Int32} {C_draftedGiven : Int32} {C_block : Nat → Int32} {C_left : Nat → Int32} {C_right : Nat → Int32} {C_pivot : Nat → Int32} {C_positive : Nat → Int32} {C_negative : Nat → Int32} {C_live : Nat → Int32} {C_needed : Nat → Int32} {R_kind : Int32} {R_place : Int32} {R_at : Int32} {R_token : Int32} {R_tokenPlace : Int32} {R_number : Int32} {R_state : Int32} {R_block : Int32} {R_positive : Int32} {R_negative : Int32} {R_left : Int32} {R_right : Int32} {R_pivot : Int32} {L_of : Nat → Int32} {F_cut : Int32} {F_labelledA : Int32} {F_labelledB : Int32} {F_row : Nat → Int64} {A_root : Int32} {A_words : Nat → Int64} {A_known : Nat → Int32} {G_size : Int32} {G_variable : Nat → Int32} {G_low : Nat → Int32} {G_high : Nat → Int32} {G_numberOf : Nat → Int32} {G_nodeOf : Nat → Int32} {G_sides : Nat → Int32} {G_waiting : Nat → Int32} {B_table : Nat → Int64} {B_nextTable : Nat → Int64}  {k : (Nat → Int32) → Prop} (h : p_C_markNeeded C_empty C_block C_left C_right C_needed k) :
    MTv l y_C_markNeeded b_C_markNeeded 2 none rm_C_markNeeded D ca tp [.ref (ad 3)] (WB ad ca T_length T_bytes C_size C_given C_empty C_drafted C_draftedGiven C_block C_left C_right C_pivot C_positive C_negative C_live C_needed R_kind R_place R_at R_token R_tokenPlace R_number R_state R_block R_positive R_negative R_left R_right R_pivot L_of F_cut F_labelledA F_labelledB F_row A_root A_words A_known G_size G_variable G_low G_high G_numberOf G_nodeOf G_sides G_waiting B_table B_nextTable)
      (fun (u : (Nat → Int32)) => k u)
      (fun (u : (Nat → Int32)) => WB ad ca T_length T_bytes C_size C_given C_empty C_drafted C_draftedGiven C_block C_left C_right C_pivot C_positive C_negative C_live u R_kind R_place R_at R_token R_tokenPlace R_number R_state R_block R_positive R_negative R_left R_right R_pivot L_of F_cut F_labelledA F_labelledB F_row A_root A_words A_known G_size G_variable G_low G_high G_numberOf G_nodeOf G_sides G_waiting B_table B_nextTable) 0 0 := by
  refine x_entryv (own := R_C) (nm := "markNeeded") (by decide) rfl rfl (Nat.le_of_ble_eq_true rfl) (fun p e s m below meth c A ls C0 hw hl => ?_)
  have hx := C0.1
  have hb := C0.2.1
  have hl : lv_has ls 2 [(0, .ref (ad 3))] := hl
  unfold p_C_markNeeded at h
  refine lv_iconst (v := 0) hx hb d_C_markNeeded_0 (by decide) ?_
  refine lv_istore_n (lv' := [(1, .int (0 : Int32)), (0, .ref (ad 3))]) hx hb d_C_markNeeded_1 rfl hl (by decide) rfl (fun ls hl => ?_)
  obtain ⟨j_15, h⟩ := h
  refine b_C_markNeeded_L2 C0 _ _ _ h hw (lv_sub hl [1, 0] rfl) (fun C_needed_7 H locs ls h hw hl => ?_)
  refine lv_aload_n hx hb d_C_markNeeded_38 rfl (lv_at hl 0 rfl) ?_
  refine x_get C0 hw 3 rfl rfl i_C 10 (by decide) wm_125 rfl rfl d_C_markNeeded_39 ?_
  refine lv_istore_n (lv' := [(1, .int C_empty), (0, .ref (ad 3))]) hx hb d_C_markNeeded_42 rfl hl (by decide) rfl (fun ls hl => ?_)
  obtain ⟨j_14, h⟩ := h
  refine b_C_markNeeded_L43 C0 _ _ _ h hw (lv_sub hl [1, 0] rfl)
theorem g_C_keepDraft : GY y_C_keepDraft b_C_keepDraft 2 (some .int) 0 := ⟨wm_487, wm_55, by decide +kernel, by decide +kernel, by decide +kernel⟩
def p_C_keepDraft (C_size : Int32) (C_empty : Int32) (C_drafted : Int32) (C_draftedGiven : Int32) (C_block : Nat → Int32) (C_left : Nat → Int32) (C_right : Nat → Int32) (C_positive : Nat → Int32) (C_negative : Nat → Int32) (C_needed : Nat → Int32) (k : Int32 → Int32 → Int32 → Int32 → (Nat → Int32) → Prop) : Prop :=
  (p_C_findEmpty C_drafted C_empty C_positive C_negative (fun (C_empty_1 : Int32) => (p_C_markNeeded C_empty_1 C_block C_left C_right C_needed (fun (C_needed_3 : Nat → Int32) => (k (C_drafted - C_size) C_drafted C_draftedGiven C_empty_1 C_needed_3)))))
abbrev rm_C_keepDraft : Room := { frames := 1, cells := 0, slots := 0, locals := 21 }
set_option maxHeartbeats 4000000 in
set_option maxRecDepth 100000 in
theorem c_C_keepDraft {l : Launch} {D : va_G} {ca : Nat → ClassId} {tp : Nat} {ad : Nat → Nat} {T_length : Int32} {T_bytes : Nat → Int32} {C_size : Int32} {C_given : Int32} {C_empty : Int32} {C_drafted : Int32} {C_draftedGiven : Int32} {C_block : Nat → Int32} {C_left : Nat → Int32} {C_right : Nat → Int32} {C_pivot : Nat → Int32} {C_positive : Nat → Int32} {C_negative : Nat → Int32} {C_live : Nat → Int32} {C_needed : Nat → Int32} {R_kind : Int32} {R_place : Int32} {R_at : Int32} {R_token : Int32} {R_tokenPlace : Int32} {R_number : Int32} {R_state : Int32} {R_block : Int32} {R_positive : Int32} {R_negative : Int32} {R_left : Int32} {R_right : Int32} {R_pivot : Int32} {L_of : Nat → Int32} {F_cut : Int32} {F_labelledA : Int32} {F_labelledB : Int32} {F_row : Nat → Int64} {A_root : Int32} {A_words : Nat → Int64} {A_known : Nat → Int32} {G_size : Int32} {G_variable : Nat → Int32} {G_low : Nat → Int32} {G_high : Nat → Int32} {G_numberOf : Nat → Int32} {G_nodeOf : Nat → Int32} {G_sides : Nat → Int32} {G_waiting : Nat → Int32} {B_table : Nat → Int64} {B_nextTable : Nat → Int64}  {k : Int32 → Int32 → Int32 → Int32 → (Nat → Int32) → Prop} (h : p_C_keepDraft C_size C_empty C_drafted C_draftedGiven C_block C_left C_right C_positive C_negative C_needed k) :
    MTi l y_C_keepDraft b_C_keepDraft 2 (some .int) rm_C_keepDraft D ca tp [.ref (ad 3)] (WB ad ca T_length T_bytes C_size C_given C_empty C_drafted C_draftedGiven C_block C_left C_right C_pivot C_positive C_negative C_live C_needed R_kind R_place R_at R_token R_tokenPlace R_number R_state R_block R_positive R_negative R_left R_right R_pivot L_of F_cut F_labelledA F_labelledB F_row A_root A_words A_known G_size G_variable G_low G_high G_numberOf G_nodeOf G_sides G_waiting B_table B_nextTable)
      (fun r (u : Int32 × Int32 × Int32 × (Nat → Int32)) => k r u.1 u.2.1 u.2.2.1 u.2.2.2)
      (fun (u : Int32 × Int32 × Int32 × (Nat → Int32)) => WB ad ca T_length T_bytes u.1 u.2.1 u.2.2.1 C_drafted C_draftedGiven C_block C_left C_right C_pivot C_positive C_negative C_live u.2.2.2 R_kind R_place R_at R_token R_tokenPlace R_number R_state R_block R_positive R_negative R_left R_right R_pivot L_of F_cut F_labelledA F_labelledB F_row A_root A_words A_known G_size G_variable G_low G_high G_numberOf G_nodeOf G_sides G_waiting B_table B_nextTable) 0 0 := by
  refine x_entryi (own := R_C) (nm := "keepDraft") (by decide) rfl rfl (Nat.le_of_ble_eq_true rfl) (fun p e s m below meth c A ls C0 hw hl => ?_)
  have hx := C0.1
  have hb := C0.2.1
  have hl : lv_has ls 2 [(0, .ref (ad 3))] := hl
  unfold p_C_keepDraft at h
  refine lv_aload_n hx hb d_C_keepDraft_0 rfl (lv_at hl 0 rfl) ?_
  refine x_get C0 hw 3 rfl rfl i_C 11 (by decide) wm_126 rfl rfl d_C_keepDraft_1 ?_
  refine lv_aload_n hx hb d_C_keepDraft_4 rfl (lv_at hl 0 rfl) ?_
  refine x_get C0 hw 3 rfl rfl i_C 8 (by decide) wm_118 rfl rfl d_C_keepDraft_5 ?_
  refine lv_isub hx hb d_C_keepDraft_8 ?_
  refine lv_istore_n (lv' := [(1, .int (C_drafted - C_size)), (0, .ref (ad 3))]) hx hb d_C_keepDraft_9 rfl hl (by decide) rfl (fun ls hl => ?_)
  refine lv_aload_n hx hb d_C_keepDraft_10 rfl (lv_at hl 1 rfl) ?_
  refine lv_aload_n hx hb d_C_keepDraft_11 rfl (lv_at hl 1 rfl) ?_
  refine x_get C0 hw 3 rfl rfl i_C 11 (by decide) wm_126 rfl rfl d_C_keepDraft_12 ?_
  refine x_put C0 hw 3 rfl rfl i_C tk_C n_C 8 (by decide) wm_118 rfl rfl rfl rfl (Nat.le_of_ble_eq_true rfl) (ws' := WB ad ca T_length T_bytes C_drafted C_given C_empty C_drafted C_draftedGiven C_block C_left C_right C_pivot C_positive C_negative C_live C_needed R_kind R_place R_at R_token R_tokenPlace R_number R_state R_block R_positive R_negative R_left R_right R_pivot L_of F_cut F_labelledA F_labelledB F_row A_root A_words A_known G_size G_variable G_low G_high G_numberOf G_nodeOf G_sides G_waiting B_table B_nextTable) rfl d_C_keepDraft_15 (fun H locs hw => ?_)
  refine lv_aload_n hx hb d_C_keepDraft_18 rfl (lv_at hl 1 rfl) ?_
  refine lv_aload_n hx hb d_C_keepDraft_19 rfl (lv_at hl 1 rfl) ?_
  refine x_get C0 hw 3 rfl rfl i_C 12 (by decide) wm_127 rfl rfl d_C_keepDraft_20 ?_
  refine x_put C0 hw 3 rfl rfl i_C tk_C n_C 9 (by decide) wm_120 rfl rfl rfl rfl (Nat.le_of_ble_eq_true rfl) (ws' := WB ad ca T_length T_bytes C_drafted C_draftedGiven C_empty C_drafted C_draftedGiven C_block C_left C_right C_pivot C_positive C_negative C_live C_needed R_kind R_place R_at R_token R_tokenPlace R_number R_state R_block R_positive R_negative R_left R_right R_pivot L_of F_cut F_labelledA F_labelledB F_row A_root A_words A_known G_size G_variable G_low G_high G_numberOf G_nodeOf G_sides G_waiting B_table B_nextTable) rfl d_C_keepDraft_23 (fun H locs hw => ?_)
  refine lv_aload_n hx hb d_C_keepDraft_26 rfl (lv_at hl 1 rfl) ?_
  refine x_callVv C0 hw hl (c_C_findEmpty h) g_C_findEmpty wm_488 ⟨wm_20, wm_490⟩ 3 rfl rfl rfl (As := []) (rest := []) rfl rfl (Nat.le_of_ble_eq_true rfl) ⟨rfl, rfl⟩ ⟨Nat.le_of_ble_eq_true rfl, Nat.le_of_ble_eq_true rfl⟩ ⟨Nat.le_of_ble_eq_true rfl, Nat.le_of_ble_eq_true rfl⟩ d_C_keepDraft_27 (fun u H locs h hw => ?_)
  obtain ⟨C_empty_1, rfl⟩ : ∃ z, z = u := ⟨_, rfl⟩
  refine lv_aload_n hx hb d_C_keepDraft_30 rfl (lv_at hl 1 rfl) ?_
  refine x_callVv C0 hw hl (c_C_markNeeded h) g_C_markNeeded wm_492 ⟨wm_21, wm_494⟩ 3 rfl rfl rfl (As := []) (rest := []) rfl rfl (Nat.le_of_ble_eq_true rfl) ⟨rfl, rfl⟩ ⟨Nat.le_of_ble_eq_true rfl, Nat.le_of_ble_eq_true rfl⟩ ⟨Nat.le_of_ble_eq_true rfl, Nat.le_of_ble_eq_true rfl⟩ d_C_keepDraft_31 (fun u H locs h hw => ?_)
  obtain ⟨C_needed_3, rfl⟩ : ∃ z, z = u := ⟨_, rfl⟩
  refine lv_iload_n hx hb d_C_keepDraft_34 rfl (lv_at hl 0 rfl) ?_
  exact x_iret C0 hw (C_drafted, C_draftedGiven, C_empty_1, C_needed_3) h rfl d_C_keepDraft_35
theorem g_C_removeAll : GY y_C_removeAll b_C_removeAll 1 none 0 := ⟨wm_507, wm_55, by decide +kernel, by decide +kernel, by decide +kernel⟩
def p_C_removeAll (k : Int32 → Int32 → Int32 → Prop) : Prop :=
  (k (0 : Int32) (0 : Int32) (0 : Int32))
abbrev rm_C_removeAll : Room := { frames := 0, cells := 0, slots := 0, locals := 0 }
set_option maxHeartbeats 4000000 in
set_option maxRecDepth 100000 in
theorem c_C_removeAll {l : Launch} {D : va_G} {ca : Nat → ClassId} {tp : Nat} {ad : Nat → Nat} {T_length : Int32} {T_bytes : Nat → Int32} {C_size : Int32} {C_given : Int32} {C_empty : Int32} {C_drafted : Int32} {C_draftedGiven : Int32} {C_block : Nat → Int32} {C_left : Nat → Int32} {C_right : Nat → Int32} {C_pivot : Nat → Int32} {C_positive : Nat → Int32} {C_negative : Nat → Int32} {C_live : Nat → Int32} {C_needed : Nat → Int32} {R_kind : Int32} {R_place : Int32} {R_at : Int32} {R_token : Int32} {R_tokenPlace : Int32} {R_number : Int32} {R_state : Int32} {R_block : Int32} {R_positive : Int32} {R_negative : Int32} {R_left : Int32} {R_right : Int32} {R_pivot : Int32} {L_of : Nat → Int32} {F_cut : Int32} {F_labelledA : Int32} {F_labelledB : Int32} {F_row : Nat → Int64} {A_root : Int32} {A_words : Nat → Int64} {A_known : Nat → Int32} {G_size : Int32} {G_variable : Nat → Int32} {G_low : Nat → Int32} {G_high : Nat → Int32} {G_numberOf : Nat → Int32} {G_nodeOf : Nat → Int32} {G_sides : Nat → Int32} {G_waiting : Nat → Int32} {B_table : Nat → Int64} {B_nextTable : Nat → Int64}  {k : Int32 → Int32 → Int32 → Prop} (h : p_C_removeAll  k) :
    MTv l y_C_removeAll b_C_removeAll 1 none rm_C_removeAll D ca tp [.ref (ad 3)] (WB ad ca T_length T_bytes C_size C_given C_empty C_drafted C_draftedGiven C_block C_left C_right C_pivot C_positive C_negative C_live C_needed R_kind R_place R_at R_token R_tokenPlace R_number R_state R_block R_positive R_negative R_left R_right R_pivot L_of F_cut F_labelledA F_labelledB F_row A_root A_words A_known G_size G_variable G_low G_high G_numberOf G_nodeOf G_sides G_waiting B_table B_nextTable)
      (fun (u : Int32 × Int32 × Int32) => k u.1 u.2.1 u.2.2)
      (fun (u : Int32 × Int32 × Int32) => WB ad ca T_length T_bytes u.1 u.2.1 u.2.2 C_drafted C_draftedGiven C_block C_left C_right C_pivot C_positive C_negative C_live C_needed R_kind R_place R_at R_token R_tokenPlace R_number R_state R_block R_positive R_negative R_left R_right R_pivot L_of F_cut F_labelledA F_labelledB F_row A_root A_words A_known G_size G_variable G_low G_high G_numberOf G_nodeOf G_sides G_waiting B_table B_nextTable) 0 0 := by
  refine x_entryv (own := R_C) (nm := "removeAll") (by decide) rfl rfl (Nat.le_of_ble_eq_true rfl) (fun p e s m below meth c A ls C0 hw hl => ?_)
  have hx := C0.1
  have hb := C0.2.1
  have hl : lv_has ls 1 [(0, .ref (ad 3))] := hl
  unfold p_C_removeAll at h
  refine lv_aload_n hx hb d_C_removeAll_0 rfl (lv_at hl 0 rfl) ?_
  refine lv_iconst (v := 0) hx hb d_C_removeAll_1 (by decide) ?_
  refine x_put C0 hw 3 rfl rfl i_C tk_C n_C 8 (by decide) wm_118 rfl rfl rfl rfl (Nat.le_of_ble_eq_true rfl) (ws' := WB ad ca T_length T_bytes (0 : Int32) C_given C_empty C_drafted C_draftedGiven C_block C_left C_right C_pivot C_positive C_negative C_live C_needed R_kind R_place R_at R_token R_tokenPlace R_number R_state R_block R_positive R_negative R_left R_right R_pivot L_of F_cut F_labelledA F_labelledB F_row A_root A_words A_known G_size G_variable G_low G_high G_numberOf G_nodeOf G_sides G_waiting B_table B_nextTable) rfl d_C_removeAll_2 (fun H locs hw => ?_)
  refine lv_aload_n hx hb d_C_removeAll_5 rfl (lv_at hl 0 rfl) ?_
  refine lv_iconst (v := 0) hx hb d_C_removeAll_6 (by decide) ?_
  refine x_put C0 hw 3 rfl rfl i_C tk_C n_C 9 (by decide) wm_120 rfl rfl rfl rfl (Nat.le_of_ble_eq_true rfl) (ws' := WB ad ca T_length T_bytes (0 : Int32) (0 : Int32) C_empty C_drafted C_draftedGiven C_block C_left C_right C_pivot C_positive C_negative C_live C_needed R_kind R_place R_at R_token R_tokenPlace R_number R_state R_block R_positive R_negative R_left R_right R_pivot L_of F_cut F_labelledA F_labelledB F_row A_root A_words A_known G_size G_variable G_low G_high G_numberOf G_nodeOf G_sides G_waiting B_table B_nextTable) rfl d_C_removeAll_7 (fun H locs hw => ?_)
  refine lv_aload_n hx hb d_C_removeAll_10 rfl (lv_at hl 0 rfl) ?_
  refine lv_iconst (v := 0) hx hb d_C_removeAll_11 (by decide) ?_
  refine x_put C0 hw 3 rfl rfl i_C tk_C n_C 10 (by decide) wm_125 rfl rfl rfl rfl (Nat.le_of_ble_eq_true rfl) (ws' := WB ad ca T_length T_bytes (0 : Int32) (0 : Int32) (0 : Int32) C_drafted C_draftedGiven C_block C_left C_right C_pivot C_positive C_negative C_live C_needed R_kind R_place R_at R_token R_tokenPlace R_number R_state R_block R_positive R_negative R_left R_right R_pivot L_of F_cut F_labelledA F_labelledB F_row A_root A_words A_known G_size G_variable G_low G_high G_numberOf G_nodeOf G_sides G_waiting B_table B_nextTable) rfl d_C_removeAll_12 (fun H locs hw => ?_)
  exact x_vret C0 hw ((0 : Int32), (0 : Int32), (0 : Int32)) h rfl d_C_removeAll_15
theorem g_C_isNews : GY y_C_isNews b_C_isNews 7 (some .boolean) 3 := ⟨wm_534, wm_55, by decide +kernel, by decide +kernel, by decide +kernel⟩
def p_C_isNews_L33 (C_drafted : Int32) (C_positive : Nat → Int32) (C_negative : Nat → Int32) (x4 : Int32) (x5 : Int32) (k : Int32 → Prop) : Nat → Int32 → Prop
  | 0, _ => False
  | n + 1, x6 =>
    ((C_drafted < x6 → (k (1 : Int32))) ∧ (¬ C_drafted < x6 → (vp_in x6 201 ∧ ((¬ (C_positive x6.toNatClampNeg) = x4 → (p_C_isNews_L33 C_drafted C_positive C_negative x4 x5 k n (x6 + 1))) ∧ ((C_positive x6.toNatClampNeg) = x4 → ((¬ (C_negative x6.toNatClampNeg) = x5 → (p_C_isNews_L33 C_drafted C_positive C_negative x4 x5 k n (x6 + 1))) ∧ ((C_negative x6.toNatClampNeg) = x5 → (k (0 : Int32)))))))))
def p_C_isNews (C_drafted : Int32) (C_positive : Nat → Int32) (C_negative : Nat → Int32) (x1 : Int32) (x2 : Int32) (x3 : Int32) (k : Int32 → Prop) : Prop :=
  (p_C_clashes C_positive C_negative x1 x2 x3 (fun (r_1 : Int32) => ((r_1 = 0 → (p_C_positiveRest C_positive x1 x2 x3 (fun (r_3 : Int32) => (p_C_negativeRest C_negative x1 x2 x3 (fun (r_4 : Int32) => (∃ j_9, p_C_isNews_L33 C_drafted C_positive C_negative r_3 r_4 k j_9 (1 : Int32))))))) ∧ (¬ r_1 = 0 → (k (0 : Int32))))))
abbrev rm_C_isNews : Room := { frames := 3, cells := 0, slots := 0, locals := 66 }
set_option maxHeartbeats 4000000 in
set_option maxRecDepth 100000 in
theorem b_C_isNews_L33 {p : Program} {l : Launch} {e : Env} {s : State} {m : MethodId} {args : Array Value} {below : List Frame} {meth : Method} {c : Code} {D : va_G} {ca : Nat → ClassId} {tp : Nat} {A : Nat → Prop} {ad : Nat → Nat} {T_length : Int32} {T_bytes : Nat → Int32} {C_size : Int32} {C_given : Int32} {C_empty : Int32} {C_drafted : Int32} {C_draftedGiven : Int32} {C_block : Nat → Int32} {C_left : Nat → Int32} {C_right : Nat → Int32} {C_pivot : Nat → Int32} {C_positive : Nat → Int32} {C_negative : Nat → Int32} {C_live : Nat → Int32} {C_needed : Nat → Int32} {R_kind : Int32} {R_place : Int32} {R_at : Int32} {R_token : Int32} {R_tokenPlace : Int32} {R_number : Int32} {R_state : Int32} {R_block : Int32} {R_positive : Int32} {R_negative : Int32} {R_left : Int32} {R_right : Int32} {R_pivot : Int32} {L_of : Nat → Int32} {F_cut : Int32} {F_labelledA : Int32} {F_labelledB : Int32} {F_row : Nat → Int64} {A_root : Int32} {A_words : Nat → Int64} {A_known : Nat → Int32} {G_size : Int32} {G_variable : Nat → Int32} {G_low : Nat → Int32} {G_high : Nat → Int32} {G_numberOf : Nat → Int32} {G_nodeOf : Nat → Int32} {G_sides : Nat → Int32} {G_waiting : Nat → Int32} {B_table : Nat → Int64} {B_nextTable : Nat → Int64} {x4 : Int32} {x5 : Int32} {k : Int32 → Prop}  (C0 : CX p s m args meth c b_C_isNews 7 (some .boolean) R_C "isNews" D ca tp A) :
    ∀ (n : Nat) (x6 : Int32) {H : Heap} {locs : List Loc} {ls : Array Slot}, p_C_isNews_L33 C_drafted C_positive C_negative x4 x5 k n x6 → WH D A s (WB ad ca T_length T_bytes C_size C_given C_empty C_drafted C_draftedGiven C_block C_left C_right C_pivot C_positive C_negative C_live C_needed R_kind R_place R_at R_token R_tokenPlace R_number R_state R_block R_positive R_negative R_left R_right R_pivot L_of F_cut F_labelledA F_labelledB F_row A_root A_words A_known G_size G_variable G_low G_high G_numberOf G_nodeOf G_sides G_waiting B_table B_nextTable) H locs → lv_has ls 7 [(0, .ref (ad 3)), (4, .int x4), (5, .int x5), (6, .int x6)] →
      W p l e rm_C_isNews s m args below meth c H locs 0 0 (QI D A below args s (fun r (_ : Unit) => k r) (fun (_ : Unit) => WB ad ca T_length T_bytes C_size C_given C_empty C_drafted C_draftedGiven C_block C_left C_right C_pivot C_positive C_negative C_live C_needed R_kind R_place R_at R_token R_tokenPlace R_number R_state R_block R_positive R_negative R_left R_right R_pivot L_of F_cut F_labelledA F_labelledB F_row A_root A_words A_known G_size G_variable G_low G_high G_numberOf G_nodeOf G_sides G_waiting B_table B_nextTable) 0 0) (F0 m 33 ls []) := by
  have hx := C0.1
  have hb := C0.2.1
  intro n
  induction n with
  | zero =>
    intro x6 H locs ls h
    exact False.elim h
  | succ n ih =>
    intro x6 H locs ls h hw hl
    unfold p_C_isNews_L33 at h
    refine lv_iload hx hb d_C_isNews_33 (lv_at hl 3 rfl) ?_
    refine lv_aload_n hx hb d_C_isNews_35 rfl (lv_at hl 0 rfl) ?_
    refine x_get C0 hw 3 rfl rfl i_C 11 (by decide) wm_126 rfl rfl d_C_isNews_36 ?_
    refine lv_icmp_gt (tgt := 74) hx hb d_C_isNews_39 (by decide) (fun c_5 => ?_) (fun c_5 => ?_)
    · have h := h.1 c_5
      refine lv_iconst (v := 1) hx hb d_C_isNews_74 (by decide) ?_
      exact x_zret C0 hw rfl () h rfl d_C_isNews_75
    · have h := h.2 c_5
      refine lv_aload_n hx hb d_C_isNews_42 rfl (lv_at hl 0 rfl) ?_
      refine x_get C0 hw 3 rfl rfl i_C 4 (by decide) wm_107 rfl rfl d_C_isNews_43 ?_
      refine lv_iload hx hb d_C_isNews_46 (lv_at hl 3 rfl) ?_
      obtain ⟨hi_6, h⟩ := h
      refine x_iald C0 hw 8 rfl hi_6 d_C_isNews_48 ?_
      refine lv_iload hx hb d_C_isNews_49 (lv_at hl 1 rfl) ?_
      refine lv_icmp_ne (tgt := 68) hx hb d_C_isNews_51 (by decide) (fun c_7 => ?_) (fun c_7 => ?_)
      · have h := h.1 c_7
        refine lv_iinc (v := (x6 + 1)) (lv' := [(6, .int (x6 + 1)), (0, .ref (ad 3)), (4, .int x4), (5, .int x5)]) hx hb d_C_isNews_68 hl (k := 3) rfl rfl (by decide) rfl (fun ls hl => ?_)
        refine lv_goto (tgt := 33) hx hb d_C_isNews_71 (by decide) ?_
        exact ih _ h hw (lv_sub hl [1, 2, 3, 0] rfl)
      · have h := h.2 c_7
        refine lv_aload_n hx hb d_C_isNews_54 rfl (lv_at hl 0 rfl) ?_
        refine x_get C0 hw 3 rfl rfl i_C 5 (by decide) wm_110 rfl rfl d_C_isNews_55 ?_
        refine lv_iload hx hb d_C_isNews_58 (lv_at hl 3 rfl) ?_
        refine x_iald C0 hw 9 rfl hi_6 d_C_isNews_60 ?_
        refine lv_iload hx hb d_C_isNews_61 (lv_at hl 2 rfl) ?_
        refine lv_icmp_ne (tgt := 68) hx hb d_C_isNews_63 (by decide) (fun c_8 => ?_) (fun c_8 => ?_)
        · have h := h.1 c_8
          refine lv_iinc (v := (x6 + 1)) (lv' := [(6, .int (x6 + 1)), (0, .ref (ad 3)), (4, .int x4), (5, .int x5)]) hx hb d_C_isNews_68 hl (k := 3) rfl rfl (by decide) rfl (fun ls hl => ?_)
          refine lv_goto (tgt := 33) hx hb d_C_isNews_71 (by decide) ?_
          exact ih _ h hw (lv_sub hl [1, 2, 3, 0] rfl)
        · have h := h.2 c_8
          refine lv_iconst (v := 0) hx hb d_C_isNews_66 (by decide) ?_
          exact x_zret C0 hw rfl () h rfl d_C_isNews_67
set_option maxHeartbeats 4000000 in
set_option maxRecDepth 100000 in
theorem c_C_isNews {l : Launch} {D : va_G} {ca : Nat → ClassId} {tp : Nat} {ad : Nat → Nat} {T_length : Int32} {T_bytes : Nat → Int32} {C_size : Int32} {C_given : Int32} {C_empty : Int32} {C_drafted : Int32} {C_draftedGiven : Int32} {C_block : Nat → Int32} {C_left : Nat → Int32} {C_right : Nat → Int32} {C_pivot : Nat → Int32} {C_positive : Nat → Int32} {C_negative : Nat → Int32} {C_live : Nat → Int32} {C_needed : Nat → Int32} {R_kind : Int32} {R_place : Int32} {R_at : Int32} {R_token : Int32} {R_tokenPlace : Int32} {R_number : Int32} {R_state : Int32} {R_block : Int32} {R_positive : Int32} {R_negative : Int32} {R_left : Int32} {R_right : Int32} {R_pivot : Int32} {L_of : Nat → Int32} {F_cut : Int32} {F_labelledA : Int32} {F_labelledB : Int32} {F_row : Nat → Int64} {A_root : Int32} {A_words : Nat → Int64} {A_known : Nat → Int32} {G_size : Int32} {G_variable : Nat → Int32} {G_low : Nat → Int32} {G_high : Nat → Int32} {G_numberOf : Nat → Int32} {G_nodeOf : Nat → Int32} {G_sides : Nat → Int32} {G_waiting : Nat → Int32} {B_table : Nat → Int64} {B_nextTable : Nat → Int64} {x1 : Int32} {x2 : Int32} {x3 : Int32} {k : Int32 → Prop} (h : p_C_isNews C_drafted C_positive C_negative x1 x2 x3 k) :
    MTi l y_C_isNews b_C_isNews 7 (some .boolean) rm_C_isNews D ca tp [.ref (ad 3), .int x1, .int x2, .int x3] (WB ad ca T_length T_bytes C_size C_given C_empty C_drafted C_draftedGiven C_block C_left C_right C_pivot C_positive C_negative C_live C_needed R_kind R_place R_at R_token R_tokenPlace R_number R_state R_block R_positive R_negative R_left R_right R_pivot L_of F_cut F_labelledA F_labelledB F_row A_root A_words A_known G_size G_variable G_low G_high G_numberOf G_nodeOf G_sides G_waiting B_table B_nextTable)
      (fun r (_ : Unit) => k r)
      (fun (_ : Unit) => WB ad ca T_length T_bytes C_size C_given C_empty C_drafted C_draftedGiven C_block C_left C_right C_pivot C_positive C_negative C_live C_needed R_kind R_place R_at R_token R_tokenPlace R_number R_state R_block R_positive R_negative R_left R_right R_pivot L_of F_cut F_labelledA F_labelledB F_row A_root A_words A_known G_size G_variable G_low G_high G_numberOf G_nodeOf G_sides G_waiting B_table B_nextTable) 0 0 := by
  refine x_entryi (own := R_C) (nm := "isNews") (by decide) rfl rfl (Nat.le_of_ble_eq_true rfl) (fun p e s m below meth c A ls C0 hw hl => ?_)
  have hx := C0.1
  have hb := C0.2.1
  have hl : lv_has ls 7 [(0, .ref (ad 3)), (1, .int x1), (2, .int x2), (3, .int x3)] := hl
  unfold p_C_isNews at h
  refine lv_aload_n hx hb d_C_isNews_0 rfl (lv_at hl 0 rfl) ?_
  refine lv_iload_n hx hb d_C_isNews_1 rfl (lv_at hl 1 rfl) ?_
  refine lv_iload_n hx hb d_C_isNews_2 rfl (lv_at hl 2 rfl) ?_
  refine lv_iload_n hx hb d_C_isNews_3 rfl (lv_at hl 3 rfl) ?_
  refine x_callVi C0 hw hl (c_C_clashes h) g_C_clashes wm_535 ⟨wm_460, wm_459⟩ 3 rfl rfl rfl (As := [.int x1, .int x2, .int x3]) (rest := []) rfl rfl (Nat.le_of_ble_eq_true rfl) ⟨rfl, rfl⟩ ⟨Nat.le_of_ble_eq_true rfl, Nat.le_of_ble_eq_true rfl⟩ ⟨Nat.le_of_ble_eq_true rfl, Nat.le_of_ble_eq_true rfl⟩ d_C_isNews_4 (fun r_1 u H locs h hw => ?_)
  refine lv_if_eq (tgt := 12) hx hb d_C_isNews_7 (by decide) (fun c_2 => ?_) (fun c_2 => ?_)
  · have h := h.1 c_2
    refine lv_aload_n hx hb d_C_isNews_12 rfl (lv_at hl 0 rfl) ?_
    refine lv_iload_n hx hb d_C_isNews_13 rfl (lv_at hl 1 rfl) ?_
    refine lv_iload_n hx hb d_C_isNews_14 rfl (lv_at hl 2 rfl) ?_
    refine lv_iload_n hx hb d_C_isNews_15 rfl (lv_at hl 3 rfl) ?_
    refine x_callVi C0 hw hl (c_C_positiveRest h) g_C_positiveRest wm_462 ⟨wm_16, wm_464⟩ 3 rfl rfl rfl (As := [.int x1, .int x2, .int x3]) (rest := []) rfl rfl (Nat.le_of_ble_eq_true rfl) ⟨rfl, rfl⟩ ⟨Nat.le_of_ble_eq_true rfl, Nat.le_of_ble_eq_true rfl⟩ ⟨Nat.le_of_ble_eq_true rfl, Nat.le_of_ble_eq_true rfl⟩ d_C_isNews_16 (fun r_3 u H locs h hw => ?_)
    refine lv_istore (lv' := [(4, .int r_3), (0, .ref (ad 3)), (1, .int x1), (2, .int x2), (3, .int x3)]) hx hb d_C_isNews_19 hl (by decide) rfl (fun ls hl => ?_)
    refine lv_aload_n hx hb d_C_isNews_21 rfl (lv_at hl 1 rfl) ?_
    refine lv_iload_n hx hb d_C_isNews_22 rfl (lv_at hl 2 rfl) ?_
    refine lv_iload_n hx hb d_C_isNews_23 rfl (lv_at hl 3 rfl) ?_
    refine lv_iload_n hx hb d_C_isNews_24 rfl (lv_at hl 4 rfl) ?_
    refine x_callVi C0 hw hl (c_C_negativeRest h) g_C_negativeRest wm_466 ⟨wm_17, wm_468⟩ 3 rfl rfl rfl (As := [.int x1, .int x2, .int x3]) (rest := []) rfl rfl (Nat.le_of_ble_eq_true rfl) ⟨rfl, rfl⟩ ⟨Nat.le_of_ble_eq_true rfl, Nat.le_of_ble_eq_true rfl⟩ ⟨Nat.le_of_ble_eq_true rfl, Nat.le_of_ble_eq_true rfl⟩ d_C_isNews_25 (fun r_4 u H locs h hw => ?_)
    refine lv_istore (lv' := [(5, .int r_4), (4, .int r_3), (0, .ref (ad 3)), (1, .int x1), (2, .int x2), (3, .int x3)]) hx hb d_C_isNews_28 hl (by decide) rfl (fun ls hl => ?_)
    refine lv_iconst (v := 1) hx hb d_C_isNews_30 (by decide) ?_
    refine lv_istore (lv' := [(6, .int (1 : Int32)), (5, .int r_4), (4, .int r_3), (0, .ref (ad 3)), (1, .int x1), (2, .int x2), (3, .int x3)]) hx hb d_C_isNews_31 hl (by decide) rfl (fun ls hl => ?_)
    obtain ⟨j_9, h⟩ := h
    refine b_C_isNews_L33 C0 _ _ h hw (lv_sub hl [3, 2, 1, 0] rfl)
  · have h := h.2 c_2
    refine lv_iconst (v := 0) hx hb d_C_isNews_10 (by decide) ?_
    exact x_zret C0 hw rfl () h rfl d_C_isNews_11
theorem g_C_retire : GY y_C_retire b_C_retire 3 none 1 := ⟨wm_540, wm_55, by decide +kernel, by decide +kernel, by decide +kernel⟩
def p_C_retire_L2 (C_size : Int32) (C_positive : Nat → Int32) (C_negative : Nat → Int32) (x1 : Int32) (k : (Nat → Int32) → Prop) : Nat → Int32 → (Nat → Int32) → Prop
  | 0, _, _ => False
  | n + 1, x2, C_live =>
    ((C_size < x2 → (k C_live)) ∧ (¬ C_size < x2 → (vp_in x2 201 ∧ (p_B_bitOf x1 (fun (r_3 : Int32) => (((((C_positive x2.toNatClampNeg) ||| (C_negative x2.toNatClampNeg)) &&& r_3) = 0 → (p_C_retire_L2 C_size C_positive C_negative x1 k n (x2 + 1) C_live)) ∧ (¬ (((C_positive x2.toNatClampNeg) ||| (C_negative x2.toNatClampNeg)) &&& r_3) = 0 → (p_C_retire_L2 C_size C_positive C_negative x1 k n (x2 + 1) (upd C_live x2.toNatClampNeg (0 : Int32))))))))))
def p_C_retire (C_size : Int32) (C_positive : Nat → Int32) (C_negative : Nat → Int32) (C_live : Nat → Int32) (x1 : Int32) (k : (Nat → Int32) → Prop) : Prop :=
  (∃ j_5, p_C_retire_L2 C_size C_positive C_negative x1 k j_5 (1 : Int32) C_live)
abbrev rm_C_retire : Room := { frames := 1, cells := 0, slots := 0, locals := 20 }
set_option maxHeartbeats 4000000 in
set_option maxRecDepth 100000 in
theorem b_C_retire_L2 {p : Program} {l : Launch} {e : Env} {s : State} {m : MethodId} {args : Array Value} {below : List Frame} {meth : Method} {c : Code} {D : va_G} {ca : Nat → ClassId} {tp : Nat} {A : Nat → Prop} {ad : Nat → Nat} {T_length : Int32} {T_bytes : Nat → Int32} {C_size : Int32} {C_given : Int32} {C_empty : Int32} {C_drafted : Int32} {C_draftedGiven : Int32} {C_block : Nat → Int32} {C_left : Nat → Int32} {C_right : Nat → Int32} {C_pivot : Nat → Int32} {C_positive : Nat → Int32} {C_negative : Nat → Int32} {C_needed : Nat → Int32} {R_kind : Int32} {R_place : Int32} {R_at : Int32} {R_token : Int32} {R_tokenPlace : Int32} {R_number : Int32} {R_state : Int32} {R_block : Int32} {R_positive : Int32} {R_negative : Int32} {R_left : Int32} {R_right : Int32} {R_pivot : Int32} {L_of : Nat → Int32} {F_cut : Int32} {F_labelledA : Int32} {F_labelledB : Int32} {F_row : Nat → Int64} {A_root : Int32} {A_words : Nat → Int64} {A_known : Nat → Int32} {G_size : Int32} {G_variable : Nat → Int32} {G_low : Nat → Int32} {G_high : Nat → Int32} {G_numberOf : Nat → Int32} {G_nodeOf : Nat → Int32} {G_sides : Nat → Int32} {G_waiting : Nat → Int32} {B_table : Nat → Int64} {B_nextTable : Nat → Int64} {x1 : Int32} {k : (Nat → Int32) → Prop}  (C0 : CX p s m args meth c b_C_retire 3 none R_C "retire" D ca tp A) :
    ∀ (n : Nat) (x2 : Int32) (C_live : Nat → Int32) {H : Heap} {locs : List Loc} {ls : Array Slot}, p_C_retire_L2 C_size C_positive C_negative x1 k n x2 C_live → WH D A s (WB ad ca T_length T_bytes C_size C_given C_empty C_drafted C_draftedGiven C_block C_left C_right C_pivot C_positive C_negative C_live C_needed R_kind R_place R_at R_token R_tokenPlace R_number R_state R_block R_positive R_negative R_left R_right R_pivot L_of F_cut F_labelledA F_labelledB F_row A_root A_words A_known G_size G_variable G_low G_high G_numberOf G_nodeOf G_sides G_waiting B_table B_nextTable) H locs → lv_has ls 3 [(0, .ref (ad 3)), (1, .int x1), (2, .int x2)] →
      W p l e rm_C_retire s m args below meth c H locs 0 0 (QV D A below args s (fun (u : (Nat → Int32)) => k u) (fun (u : (Nat → Int32)) => WB ad ca T_length T_bytes C_size C_given C_empty C_drafted C_draftedGiven C_block C_left C_right C_pivot C_positive C_negative u C_needed R_kind R_place R_at R_token R_tokenPlace R_number R_state R_block R_positive R_negative R_left R_right R_pivot L_of F_cut F_labelledA F_labelledB F_row A_root A_words A_known G_size G_variable G_low G_high G_numberOf G_nodeOf G_sides G_waiting B_table B_nextTable) 0 0) (F0 m 2 ls []) := by
  have hx := C0.1
  have hb := C0.2.1
  intro n
  induction n with
  | zero =>
    intro x2 C_live H locs ls h
    exact False.elim h
  | succ n ih =>
    intro x2 C_live H locs ls h hw hl
    unfold p_C_retire_L2 at h
    refine lv_iload_n hx hb d_C_retire_2 rfl (lv_at hl 2 rfl) ?_
    refine lv_aload_n hx hb d_C_retire_3 rfl (lv_at hl 0 rfl) ?_
    refine x_get C0 hw 3 rfl rfl i_C 8 (by decide) wm_118 rfl rfl d_C_retire_4 ?_
    refine lv_icmp_gt (tgt := 44) hx hb d_C_retire_7 (by decide) (fun c_1 => ?_) (fun c_1 => ?_)
    · have h := h.1 c_1
      exact x_vret C0 hw C_live h rfl d_C_retire_44
    · have h := h.2 c_1
      refine lv_aload_n hx hb d_C_retire_10 rfl (lv_at hl 0 rfl) ?_
      refine x_get C0 hw 3 rfl rfl i_C 4 (by decide) wm_107 rfl rfl d_C_retire_11 ?_
      refine lv_iload_n hx hb d_C_retire_14 rfl (lv_at hl 2 rfl) ?_
      obtain ⟨hi_2, h⟩ := h
      refine x_iald C0 hw 8 rfl hi_2 d_C_retire_15 ?_
      refine lv_aload_n hx hb d_C_retire_16 rfl (lv_at hl 0 rfl) ?_
      refine x_get C0 hw 3 rfl rfl i_C 5 (by decide) wm_110 rfl rfl d_C_retire_17 ?_
      refine lv_iload_n hx hb d_C_retire_20 rfl (lv_at hl 2 rfl) ?_
      refine x_iald C0 hw 9 rfl hi_2 d_C_retire_21 ?_
      refine lv_ior hx hb d_C_retire_22 ?_
      refine lv_iload_n hx hb d_C_retire_23 rfl (lv_at hl 1 rfl) ?_
      refine x_callSNi C0 hw hl (c_B_bitOf h) g_B_bitOf wm_455 wm_456 (As := [.int x1]) (rest := [.int ((C_positive x2.toNatClampNeg) ||| (C_negative x2.toNatClampNeg))]) rfl rfl (Nat.le_of_ble_eq_true rfl) ⟨rfl, rfl⟩ ⟨Nat.le_of_ble_eq_true rfl, Nat.le_of_ble_eq_true rfl⟩ ⟨Nat.le_of_ble_eq_true rfl, Nat.le_of_ble_eq_true rfl⟩ d_C_retire_24 (fun r_3 u H locs h hw => ?_)
      refine lv_iand hx hb d_C_retire_27 ?_
      refine lv_if_eq (tgt := 38) hx hb d_C_retire_28 (by decide) (fun c_4 => ?_) (fun c_4 => ?_)
      · have h := h.1 c_4
        refine lv_iinc (v := (x2 + 1)) (lv' := [(2, .int (x2 + 1)), (0, .ref (ad 3)), (1, .int x1)]) hx hb d_C_retire_38 hl (k := 2) rfl rfl (by decide) rfl (fun ls hl => ?_)
        refine lv_goto (tgt := 2) hx hb d_C_retire_41 (by decide) ?_
        exact ih _ _ h hw (lv_sub hl [1, 2, 0] rfl)
      · have h := h.2 c_4
        refine lv_aload_n hx hb d_C_retire_31 rfl (lv_at hl 0 rfl) ?_
        refine x_get C0 hw 3 rfl rfl i_C 6 (by decide) wm_113 rfl rfl d_C_retire_32 ?_
        refine lv_iload_n hx hb d_C_retire_35 rfl (lv_at hl 2 rfl) ?_
        refine lv_iconst (v := 0) hx hb d_C_retire_36 (by decide) ?_
        refine x_zast C0 hw 10 rfl hi_2 (ws' := WB ad ca T_length T_bytes C_size C_given C_empty C_drafted C_draftedGiven C_block C_left C_right C_pivot C_positive C_negative (upd C_live x2.toNatClampNeg (0 : Int32)) C_needed R_kind R_place R_at R_token R_tokenPlace R_number R_state R_block R_positive R_negative R_left R_right R_pivot L_of F_cut F_labelledA F_labelledB F_row A_root A_words A_known G_size G_variable G_low G_high G_numberOf G_nodeOf G_sides G_waiting B_table B_nextTable) rfl d_C_retire_37 (fun H locs hw => ?_)
        refine lv_iinc (v := (x2 + 1)) (lv' := [(2, .int (x2 + 1)), (0, .ref (ad 3)), (1, .int x1)]) hx hb d_C_retire_38 hl (k := 2) rfl rfl (by decide) rfl (fun ls hl => ?_)
        refine lv_goto (tgt := 2) hx hb d_C_retire_41 (by decide) ?_
        exact ih _ _ h hw (lv_sub hl [1, 2, 0] rfl)
set_option maxHeartbeats 4000000 in
set_option maxRecDepth 100000 in
theorem c_C_retire {l : Launch} {D : va_G} {ca : Nat → ClassId} {tp : Nat} {ad : Nat → Nat} {T_length : Int32} {T_bytes : Nat → Int32} {C_size : Int32} {C_given : Int32} {C_empty : Int32} {C_drafted : Int32} {C_draftedGiven : Int32} {C_block : Nat → Int32} {C_left : Nat → Int32} {C_right : Nat → Int32} {C_pivot : Nat → Int32} {C_positive : Nat → Int32} {C_negative : Nat → Int32} {C_live : Nat → Int32} {C_needed : Nat → Int32} {R_kind : Int32} {R_place : Int32} {R_at : Int32} {R_token : Int32} {R_tokenPlace : Int32} {R_number : Int32} {R_state : Int32} {R_block : Int32} {R_positive : Int32} {R_negative : Int32} {R_left : Int32} {R_right : Int32} {R_pivot : Int32} {L_of : Nat → Int32} {F_cut : Int32} {F_labelledA : Int32} {F_labelledB : Int32} {F_row : Nat → Int64} {A_root : Int32} {A_words : Nat → Int64} {A_known : Nat → Int32} {G_size : Int32} {G_variable : Nat → Int32} {G_low : Nat → Int32} {G_high : Nat → Int32} {G_numberOf : Nat → Int32} {G_nodeOf : Nat → Int32} {G_sides : Nat → Int32} {G_waiting : Nat → Int32} {B_table : Nat → Int64} {B_nextTable : Nat → Int64} {x1 : Int32} {k : (Nat → Int32) → Prop} (h : p_C_retire C_size C_positive C_negative C_live x1 k) :
    MTv l y_C_retire b_C_retire 3 none rm_C_retire D ca tp [.ref (ad 3), .int x1] (WB ad ca T_length T_bytes C_size C_given C_empty C_drafted C_draftedGiven C_block C_left C_right C_pivot C_positive C_negative C_live C_needed R_kind R_place R_at R_token R_tokenPlace R_number R_state R_block R_positive R_negative R_left R_right R_pivot L_of F_cut F_labelledA F_labelledB F_row A_root A_words A_known G_size G_variable G_low G_high G_numberOf G_nodeOf G_sides G_waiting B_table B_nextTable)
      (fun (u : (Nat → Int32)) => k u)
      (fun (u : (Nat → Int32)) => WB ad ca T_length T_bytes C_size C_given C_empty C_drafted C_draftedGiven C_block C_left C_right C_pivot C_positive C_negative u C_needed R_kind R_place R_at R_token R_tokenPlace R_number R_state R_block R_positive R_negative R_left R_right R_pivot L_of F_cut F_labelledA F_labelledB F_row A_root A_words A_known G_size G_variable G_low G_high G_numberOf G_nodeOf G_sides G_waiting B_table B_nextTable) 0 0 := by
  refine x_entryv (own := R_C) (nm := "retire") (by decide) rfl rfl (Nat.le_of_ble_eq_true rfl) (fun p e s m below meth c A ls C0 hw hl => ?_)
  have hx := C0.1
  have hb := C0.2.1
  have hl : lv_has ls 3 [(0, .ref (ad 3)), (1, .int x1)] := hl
  unfold p_C_retire at h
  refine lv_iconst (v := 1) hx hb d_C_retire_0 (by decide) ?_
  refine lv_istore_n (lv' := [(2, .int (1 : Int32)), (0, .ref (ad 3)), (1, .int x1)]) hx hb d_C_retire_1 rfl hl (by decide) rfl (fun ls hl => ?_)
  obtain ⟨j_5, h⟩ := h
  refine b_C_retire_L2 C0 _ _ _ h hw (lv_sub hl [1, 2, 0] rfl)
theorem g_C_resolveAway : GY y_C_resolveAway b_C_resolveAway 4 (some .int) 1 := ⟨wm_528, wm_55, by decide +kernel, by decide +kernel, by decide +kernel⟩
def p_C_resolveAway_L16 (C_size : Int32) (C_given : Int32) (C_empty : Int32) (C_draftedGiven : Int32) (C_needed : Nat → Int32) (x1 : Int32) (x2 : Int32) (k : Int32 → Int32 → Int32 → Int32 → Int32 → Int32 → (Nat → Int32) → (Nat → Int32) → (Nat → Int32) → (Nat → Int32) → (Nat → Int32) → (Nat → Int32) → (Nat → Int32) → (Nat → Int32) → Prop) (k85 : Int32 → (Nat → Int32) → (Nat → Int32) → (Nat → Int32) → (Nat → Int32) → (Nat → Int32) → (Nat → Int32) → (Nat → Int32) → Prop) : Nat → Int32 → Int32 → (Nat → Int32) → (Nat → Int32) → (Nat → Int32) → (Nat → Int32) → (Nat → Int32) → (Nat → Int32) → (Nat → Int32) → Prop
  | 0, _, _, _, _, _, _, _, _, _ => False
  | n + 1, x3, C_drafted, C_block, C_left, C_right, C_pivot, C_positive, C_negative, C_live =>
    ((C_size < x3 → (k85 C_drafted C_block C_left C_right C_pivot C_positive C_negative C_live)) ∧ (¬ C_size < x3 → (vp_in x2 201 ∧ (((C_live x2.toNatClampNeg) = 0 → (p_C_resolveAway_L16 C_size C_given C_empty C_draftedGiven C_needed x1 x2 k k85 n (x3 + 1) C_drafted C_block C_left C_right C_pivot C_positive C_negative C_live)) ∧ (¬ (C_live x2.toNatClampNeg) = 0 → (vp_in x3 201 ∧ (((C_live x3.toNatClampNeg) = 0 → (p_C_resolveAway_L16 C_size C_given C_empty C_draftedGiven C_needed x1 x2 k k85 n (x3 + 1) C_drafted C_block C_left C_right C_pivot C_positive C_negative C_live)) ∧ (¬ (C_live x3.toNatClampNeg) = 0 → (p_C_resolves C_positive C_negative x2 x3 x1 (fun (r_17 : Int32) => ((r_17 = 0 → (p_C_resolveAway_L16 C_size C_given C_empty C_draftedGiven C_needed x1 x2 k k85 n (x3 + 1) C_drafted C_block C_left C_right C_pivot C_positive C_negative C_live)) ∧ (¬ r_17 = 0 → (p_C_isNews C_drafted C_positive C_negative x2 x3 x1 (fun (r_19 : Int32) => ((r_19 = 0 → (p_C_resolveAway_L16 C_size C_given C_empty C_draftedGiven C_needed x1 x2 k k85 n (x3 + 1) C_drafted C_block C_left C_right C_pivot C_positive C_negative C_live)) ∧ (¬ r_19 = 0 → (p_C_hasRoom C_drafted (fun (r_21 : Int32) => ((¬ r_21 = 0 → (p_C_draftResolvent C_drafted C_block C_left C_right C_pivot C_positive C_negative C_live x2 x3 x1 (fun (C_drafted_23 : Int32) (C_block_24 : Nat → Int32) (C_left_25 : Nat → Int32) (C_right_26 : Nat → Int32) (C_pivot_27 : Nat → Int32) (C_positive_28 : Nat → Int32) (C_negative_29 : Nat → Int32) (C_live_30 : Nat → Int32) => (p_C_resolveAway_L16 C_size C_given C_empty C_draftedGiven C_needed x1 x2 k k85 n (x3 + 1) C_drafted_23 C_block_24 C_left_25 C_right_26 C_pivot_27 C_positive_28 C_negative_29 C_live_30)))) ∧ (r_21 = 0 → (k (-3 : Int32) C_size C_given C_empty C_drafted C_draftedGiven C_block C_left C_right C_pivot C_positive C_negative C_live C_needed)))))))))))))))))))))
def p_C_resolveAway_L6 (C_size : Int32) (C_given : Int32) (C_empty : Int32) (C_draftedGiven : Int32) (C_needed : Nat → Int32) (x1 : Int32) (k : Int32 → Int32 → Int32 → Int32 → Int32 → Int32 → (Nat → Int32) → (Nat → Int32) → (Nat → Int32) → (Nat → Int32) → (Nat → Int32) → (Nat → Int32) → (Nat → Int32) → (Nat → Int32) → Prop) : Nat → Int32 → Int32 → (Nat → Int32) → (Nat → Int32) → (Nat → Int32) → (Nat → Int32) → (Nat → Int32) → (Nat → Int32) → (Nat → Int32) → Prop
  | 0, _, _, _, _, _, _, _, _, _ => False
  | n + 1, x2, C_drafted, C_block, C_left, C_right, C_pivot, C_positive, C_negative, C_live =>
    ((C_size < x2 → (p_C_retire C_size C_positive C_negative C_live x1 (fun (C_live_5 : Nat → Int32) => (p_C_keepDraft C_size C_empty C_drafted C_draftedGiven C_block C_left C_right C_positive C_negative C_needed (fun (r_11 : Int32) (C_size_7 : Int32) (C_given_8 : Int32) (C_empty_9 : Int32) (C_needed_10 : Nat → Int32) => (k r_11 C_size_7 C_given_8 C_empty_9 C_drafted C_draftedGiven C_block C_left C_right C_pivot C_positive C_negative C_live_5 C_needed_10)))))) ∧ (¬ C_size < x2 → (∃ j_40, p_C_resolveAway_L16 C_size C_given C_empty C_draftedGiven C_needed x1 x2 k (fun (C_drafted_32 : Int32) (C_block_33 : Nat → Int32) (C_left_34 : Nat → Int32) (C_right_35 : Nat → Int32) (C_pivot_36 : Nat → Int32) (C_positive_37 : Nat → Int32) (C_negative_38 : Nat → Int32) (C_live_39 : Nat → Int32) => (p_C_resolveAway_L6 C_size C_given C_empty C_draftedGiven C_needed x1 k n (x2 + 1) C_drafted_32 C_block_33 C_left_34 C_right_35 C_pivot_36 C_positive_37 C_negative_38 C_live_39)) j_40 (1 : Int32) C_drafted C_block C_left C_right C_pivot C_positive C_negative C_live)))
def p_C_resolveAway (C_size : Int32) (C_given : Int32) (C_empty : Int32) (C_block : Nat → Int32) (C_left : Nat → Int32) (C_right : Nat → Int32) (C_pivot : Nat → Int32) (C_positive : Nat → Int32) (C_negative : Nat → Int32) (C_live : Nat → Int32) (C_needed : Nat → Int32) (x1 : Int32) (k : Int32 → Int32 → Int32 → Int32 → Int32 → Int32 → (Nat → Int32) → (Nat → Int32) → (Nat → Int32) → (Nat → Int32) → (Nat → Int32) → (Nat → Int32) → (Nat → Int32) → (Nat → Int32) → Prop) : Prop :=
  (p_C_startDraft C_size C_given (fun (C_drafted_1 : Int32) (C_draftedGiven_2 : Int32) => (∃ j_41, p_C_resolveAway_L6 C_size C_given C_empty C_draftedGiven_2 C_needed x1 k j_41 (1 : Int32) C_drafted_1 C_block C_left C_right C_pivot C_positive C_negative C_live)))
abbrev rm_C_resolveAway : Room := { frames := 4, cells := 0, slots := 0, locals := 92 }
set_option maxHeartbeats 4000000 in
set_option maxRecDepth 100000 in
theorem b_C_resolveAway_L16 {p : Program} {l : Launch} {e : Env} {s : State} {m : MethodId} {args : Array Value} {below : List Frame} {meth : Method} {c : Code} {D : va_G} {ca : Nat → ClassId} {tp : Nat} {A : Nat → Prop} {ad : Nat → Nat} {T_length : Int32} {T_bytes : Nat → Int32} {C_size : Int32} {C_given : Int32} {C_empty : Int32} {C_draftedGiven : Int32} {C_needed : Nat → Int32} {R_kind : Int32} {R_place : Int32} {R_at : Int32} {R_token : Int32} {R_tokenPlace : Int32} {R_number : Int32} {R_state : Int32} {R_block : Int32} {R_positive : Int32} {R_negative : Int32} {R_left : Int32} {R_right : Int32} {R_pivot : Int32} {L_of : Nat → Int32} {F_cut : Int32} {F_labelledA : Int32} {F_labelledB : Int32} {F_row : Nat → Int64} {A_root : Int32} {A_words : Nat → Int64} {A_known : Nat → Int32} {G_size : Int32} {G_variable : Nat → Int32} {G_low : Nat → Int32} {G_high : Nat → Int32} {G_numberOf : Nat → Int32} {G_nodeOf : Nat → Int32} {G_sides : Nat → Int32} {G_waiting : Nat → Int32} {B_table : Nat → Int64} {B_nextTable : Nat → Int64} {x1 : Int32} {x2 : Int32} {k : Int32 → Int32 → Int32 → Int32 → Int32 → Int32 → (Nat → Int32) → (Nat → Int32) → (Nat → Int32) → (Nat → Int32) → (Nat → Int32) → (Nat → Int32) → (Nat → Int32) → (Nat → Int32) → Prop} {k85 : Int32 → (Nat → Int32) → (Nat → Int32) → (Nat → Int32) → (Nat → Int32) → (Nat → Int32) → (Nat → Int32) → (Nat → Int32) → Prop} (C0 : CX p s m args meth c b_C_resolveAway 4 (some .int) R_C "resolveAway" D ca tp A) :
    ∀ (n : Nat) (x3 : Int32) (C_drafted : Int32) (C_block : Nat → Int32) (C_left : Nat → Int32) (C_right : Nat → Int32) (C_pivot : Nat → Int32) (C_positive : Nat → Int32) (C_negative : Nat → Int32) (C_live : Nat → Int32) {H : Heap} {locs : List Loc} {ls : Array Slot}, p_C_resolveAway_L16 C_size C_given C_empty C_draftedGiven C_needed x1 x2 k k85 n x3 C_drafted C_block C_left C_right C_pivot C_positive C_negative C_live → WH D A s (WB ad ca T_length T_bytes C_size C_given C_empty C_drafted C_draftedGiven C_block C_left C_right C_pivot C_positive C_negative C_live C_needed R_kind R_place R_at R_token R_tokenPlace R_number R_state R_block R_positive R_negative R_left R_right R_pivot L_of F_cut F_labelledA F_labelledB F_row A_root A_words A_known G_size G_variable G_low G_high G_numberOf G_nodeOf G_sides G_waiting B_table B_nextTable) H locs → lv_has ls 4 [(0, .ref (ad 3)), (1, .int x1), (2, .int x2), (3, .int x3)] →
      (∀ (C_drafted : Int32) (C_block : Nat → Int32) (C_left : Nat → Int32) (C_right : Nat → Int32) (C_pivot : Nat → Int32) (C_positive : Nat → Int32) (C_negative : Nat → Int32) (C_live : Nat → Int32) (H : Heap) (locs : List Loc) (ls : Array Slot), k85 C_drafted C_block C_left C_right C_pivot C_positive C_negative C_live → WH D A s (WB ad ca T_length T_bytes C_size C_given C_empty C_drafted C_draftedGiven C_block C_left C_right C_pivot C_positive C_negative C_live C_needed R_kind R_place R_at R_token R_tokenPlace R_number R_state R_block R_positive R_negative R_left R_right R_pivot L_of F_cut F_labelledA F_labelledB F_row A_root A_words A_known G_size G_variable G_low G_high G_numberOf G_nodeOf G_sides G_waiting B_table B_nextTable) H locs → lv_has ls 4 [(0, .ref (ad 3)), (1, .int x1), (2, .int x2)] → W p l e rm_C_resolveAway s m args below meth c H locs 0 0 (QI D A below args s (fun r (u : Int32 × Int32 × Int32 × Int32 × Int32 × (Nat → Int32) × (Nat → Int32) × (Nat → Int32) × (Nat → Int32) × (Nat → Int32) × (Nat → Int32) × (Nat → Int32) × (Nat → Int32)) => k r u.1 u.2.1 u.2.2.1 u.2.2.2.1 u.2.2.2.2.1 u.2.2.2.2.2.1 u.2.2.2.2.2.2.1 u.2.2.2.2.2.2.2.1 u.2.2.2.2.2.2.2.2.1 u.2.2.2.2.2.2.2.2.2.1 u.2.2.2.2.2.2.2.2.2.2.1 u.2.2.2.2.2.2.2.2.2.2.2.1 u.2.2.2.2.2.2.2.2.2.2.2.2) (fun (u : Int32 × Int32 × Int32 × Int32 × Int32 × (Nat → Int32) × (Nat → Int32) × (Nat → Int32) × (Nat → Int32) × (Nat → Int32) × (Nat → Int32) × (Nat → Int32) × (Nat → Int32)) => WB ad ca T_length T_bytes u.1 u.2.1 u.2.2.1 u.2.2.2.1 u.2.2.2.2.1 u.2.2.2.2.2.1 u.2.2.2.2.2.2.1 u.2.2.2.2.2.2.2.1 u.2.2.2.2.2.2.2.2.1 u.2.2.2.2.2.2.2.2.2.1 u.2.2.2.2.2.2.2.2.2.2.1 u.2.2.2.2.2.2.2.2.2.2.2.1 u.2.2.2.2.2.2.2.2.2.2.2.2 R_kind R_place R_at R_token R_tokenPlace R_number R_state R_block R_positive R_negative R_left R_right R_pivot L_of F_cut F_labelledA F_labelledB F_row A_root A_words A_known G_size G_variable G_low G_high G_numberOf G_nodeOf G_sides G_waiting B_table B_nextTable) 0 0) (F0 m 85 ls [])) →
      W p l e rm_C_resolveAway s m args below meth c H locs 0 0 (QI D A below args s (fun r (u : Int32 × Int32 × Int32 × Int32 × Int32 × (Nat → Int32) × (Nat → Int32) × (Nat → Int32) × (Nat → Int32) × (Nat → Int32) × (Nat → Int32) × (Nat → Int32) × (Nat → Int32)) => k r u.1 u.2.1 u.2.2.1 u.2.2.2.1 u.2.2.2.2.1 u.2.2.2.2.2.1 u.2.2.2.2.2.2.1 u.2.2.2.2.2.2.2.1 u.2.2.2.2.2.2.2.2.1 u.2.2.2.2.2.2.2.2.2.1 u.2.2.2.2.2.2.2.2.2.2.1 u.2.2.2.2.2.2.2.2.2.2.2.1 u.2.2.2.2.2.2.2.2.2.2.2.2) (fun (u : Int32 × Int32 × Int32 × Int32 × Int32 × (Nat → Int32) × (Nat → Int32) × (Nat → Int32) × (Nat → Int32) × (Nat → Int32) × (Nat → Int32) × (Nat → Int32) × (Nat → Int32)) => WB ad ca T_length T_bytes u.1 u.2.1 u.2.2.1 u.2.2.2.1 u.2.2.2.2.1 u.2.2.2.2.2.1 u.2.2.2.2.2.2.1 u.2.2.2.2.2.2.2.1 u.2.2.2.2.2.2.2.2.1 u.2.2.2.2.2.2.2.2.2.1 u.2.2.2.2.2.2.2.2.2.2.1 u.2.2.2.2.2.2.2.2.2.2.2.1 u.2.2.2.2.2.2.2.2.2.2.2.2 R_kind R_place R_at R_token R_tokenPlace R_number R_state R_block R_positive R_negative R_left R_right R_pivot L_of F_cut F_labelledA F_labelledB F_row A_root A_words A_known G_size G_variable G_low G_high G_numberOf G_nodeOf G_sides G_waiting B_table B_nextTable) 0 0) (F0 m 16 ls []) := by
  have hx := C0.1
  have hb := C0.2.1
  intro n
  induction n with
  | zero =>
    intro x3 C_drafted C_block C_left C_right C_pivot C_positive C_negative C_live H locs ls h
    exact False.elim h
  | succ n ih =>
    intro x3 C_drafted C_block C_left C_right C_pivot C_positive C_negative C_live H locs ls h hw hl h85
    unfold p_C_resolveAway_L16 at h
    refine lv_iload_n hx hb d_C_resolveAway_16 rfl (lv_at hl 3 rfl) ?_
    refine lv_aload_n hx hb d_C_resolveAway_17 rfl (lv_at hl 0 rfl) ?_
    refine x_get C0 hw 3 rfl rfl i_C 8 (by decide) wm_118 rfl rfl d_C_resolveAway_18 ?_
    refine lv_icmp_gt (tgt := 85) hx hb d_C_resolveAway_21 (by decide) (fun c_12 => ?_) (fun c_12 => ?_)
    · have h := h.1 c_12
      exact h85 _ _ _ _ _ _ _ _ _ _ _ h hw (lv_sub hl [0, 1, 2] rfl)
    · have h := h.2 c_12
      refine lv_aload_n hx hb d_C_resolveAway_24 rfl (lv_at hl 0 rfl) ?_
      refine x_get C0 hw 3 rfl rfl i_C 6 (by decide) wm_113 rfl rfl d_C_resolveAway_25 ?_
      refine lv_iload_n hx hb d_C_resolveAway_28 rfl (lv_at hl 2 rfl) ?_
      obtain ⟨hi_13, h⟩ := h
      refine x_zald C0 hw 10 rfl hi_13 d_C_resolveAway_29 ?_
      refine lv_if_eq (tgt := 79) hx hb d_C_resolveAway_30 (by decide) (fun c_14 => ?_) (fun c_14 => ?_)
      · have h := h.1 c_14
        refine lv_iinc (v := (x3 + 1)) (lv' := [(3, .int (x3 + 1)), (0, .ref (ad 3)), (1, .int x1), (2, .int x2)]) hx hb d_C_resolveAway_79 hl (k := 3) rfl rfl (by decide) rfl (fun ls hl => ?_)
        refine lv_goto (tgt := 16) hx hb d_C_resolveAway_82 (by decide) ?_
        exact ih _ _ _ _ _ _ _ _ _ h hw (lv_sub hl [1, 2, 3, 0] rfl) h85
      · have h := h.2 c_14
        refine lv_aload_n hx hb d_C_resolveAway_33 rfl (lv_at hl 0 rfl) ?_
        refine x_get C0 hw 3 rfl rfl i_C 6 (by decide) wm_113 rfl rfl d_C_resolveAway_34 ?_
        refine lv_iload_n hx hb d_C_resolveAway_37 rfl (lv_at hl 3 rfl) ?_
        obtain ⟨hi_15, h⟩ := h
        refine x_zald C0 hw 10 rfl hi_15 d_C_resolveAway_38 ?_
        refine lv_if_eq (tgt := 79) hx hb d_C_resolveAway_39 (by decide) (fun c_16 => ?_) (fun c_16 => ?_)
        · have h := h.1 c_16
          refine lv_iinc (v := (x3 + 1)) (lv' := [(3, .int (x3 + 1)), (0, .ref (ad 3)), (1, .int x1), (2, .int x2)]) hx hb d_C_resolveAway_79 hl (k := 3) rfl rfl (by decide) rfl (fun ls hl => ?_)
          refine lv_goto (tgt := 16) hx hb d_C_resolveAway_82 (by decide) ?_
          exact ih _ _ _ _ _ _ _ _ _ h hw (lv_sub hl [1, 2, 3, 0] rfl) h85
        · have h := h.2 c_16
          refine lv_aload_n hx hb d_C_resolveAway_42 rfl (lv_at hl 0 rfl) ?_
          refine lv_iload_n hx hb d_C_resolveAway_43 rfl (lv_at hl 2 rfl) ?_
          refine lv_iload_n hx hb d_C_resolveAway_44 rfl (lv_at hl 3 rfl) ?_
          refine lv_iload_n hx hb d_C_resolveAway_45 rfl (lv_at hl 1 rfl) ?_
          refine x_callVi C0 hw hl (c_C_resolves h) g_C_resolves wm_530 ⟨wm_453, wm_452⟩ 3 rfl rfl rfl (As := [.int x2, .int x3, .int x1]) (rest := []) rfl rfl (Nat.le_of_ble_eq_true rfl) ⟨rfl, rfl⟩ ⟨Nat.le_of_ble_eq_true rfl, Nat.le_of_ble_eq_true rfl⟩ ⟨Nat.le_of_ble_eq_true rfl, Nat.le_of_ble_eq_true rfl⟩ d_C_resolveAway_46 (fun r_17 u H locs h hw => ?_)
          refine lv_if_eq (tgt := 79) hx hb d_C_resolveAway_49 (by decide) (fun c_18 => ?_) (fun c_18 => ?_)
          · have h := h.1 c_18
            refine lv_iinc (v := (x3 + 1)) (lv' := [(3, .int (x3 + 1)), (0, .ref (ad 3)), (1, .int x1), (2, .int x2)]) hx hb d_C_resolveAway_79 hl (k := 3) rfl rfl (by decide) rfl (fun ls hl => ?_)
            refine lv_goto (tgt := 16) hx hb d_C_resolveAway_82 (by decide) ?_
            exact ih _ _ _ _ _ _ _ _ _ h hw (lv_sub hl [1, 2, 3, 0] rfl) h85
          · have h := h.2 c_18
            refine lv_aload_n hx hb d_C_resolveAway_52 rfl (lv_at hl 0 rfl) ?_
            refine lv_iload_n hx hb d_C_resolveAway_53 rfl (lv_at hl 2 rfl) ?_
            refine lv_iload_n hx hb d_C_resolveAway_54 rfl (lv_at hl 3 rfl) ?_
            refine lv_iload_n hx hb d_C_resolveAway_55 rfl (lv_at hl 1 rfl) ?_
            refine x_callVi C0 hw hl (c_C_isNews h) g_C_isNews wm_531 ⟨wm_22, wm_533⟩ 3 rfl rfl rfl (As := [.int x2, .int x3, .int x1]) (rest := []) rfl rfl (Nat.le_of_ble_eq_true rfl) ⟨rfl, rfl⟩ ⟨Nat.le_of_ble_eq_true rfl, Nat.le_of_ble_eq_true rfl⟩ ⟨Nat.le_of_ble_eq_true rfl, Nat.le_of_ble_eq_true rfl⟩ d_C_resolveAway_56 (fun r_19 u H locs h hw => ?_)
            refine lv_if_eq (tgt := 79) hx hb d_C_resolveAway_59 (by decide) (fun c_20 => ?_) (fun c_20 => ?_)
            · have h := h.1 c_20
              refine lv_iinc (v := (x3 + 1)) (lv' := [(3, .int (x3 + 1)), (0, .ref (ad 3)), (1, .int x1), (2, .int x2)]) hx hb d_C_resolveAway_79 hl (k := 3) rfl rfl (by decide) rfl (fun ls hl => ?_)
              refine lv_goto (tgt := 16) hx hb d_C_resolveAway_82 (by decide) ?_
              exact ih _ _ _ _ _ _ _ _ _ h hw (lv_sub hl [1, 2, 3, 0] rfl) h85
            · have h := h.2 c_20
              refine lv_aload_n hx hb d_C_resolveAway_62 rfl (lv_at hl 0 rfl) ?_
              refine x_callVi C0 hw hl (c_C_hasRoom h) g_C_hasRoom wm_394 ⟨wm_396, wm_395⟩ 3 rfl rfl rfl (As := []) (rest := []) rfl rfl (Nat.le_of_ble_eq_true rfl) ⟨rfl, rfl⟩ ⟨Nat.le_of_ble_eq_true rfl, Nat.le_of_ble_eq_true rfl⟩ ⟨Nat.le_of_ble_eq_true rfl, Nat.le_of_ble_eq_true rfl⟩ d_C_resolveAway_63 (fun r_21 u H locs h hw => ?_)
              refine lv_if_ne (tgt := 72) hx hb d_C_resolveAway_66 (by decide) (fun c_22 => ?_) (fun c_22 => ?_)
              · have h := h.1 c_22
                refine lv_aload_n hx hb d_C_resolveAway_72 rfl (lv_at hl 0 rfl) ?_
                refine lv_iload_n hx hb d_C_resolveAway_73 rfl (lv_at hl 2 rfl) ?_
                refine lv_iload_n hx hb d_C_resolveAway_74 rfl (lv_at hl 3 rfl) ?_
                refine lv_iload_n hx hb d_C_resolveAway_75 rfl (lv_at hl 1 rfl) ?_
                refine x_callVv C0 hw hl (c_C_draftResolvent h) g_C_draftResolvent wm_536 ⟨wm_481, wm_480⟩ 3 rfl rfl rfl (As := [.int x2, .int x3, .int x1]) (rest := []) rfl rfl (Nat.le_of_ble_eq_true rfl) ⟨rfl, rfl⟩ ⟨Nat.le_of_ble_eq_true rfl, Nat.le_of_ble_eq_true rfl⟩ ⟨Nat.le_of_ble_eq_true rfl, Nat.le_of_ble_eq_true rfl⟩ d_C_resolveAway_76 (fun u H locs h hw => ?_)
                obtain ⟨C_drafted_23, C_block_24, C_left_25, C_right_26, C_pivot_27, C_positive_28, C_negative_29, C_live_30⟩ := u
                refine lv_iinc (v := (x3 + 1)) (lv' := [(3, .int (x3 + 1)), (0, .ref (ad 3)), (1, .int x1), (2, .int x2)]) hx hb d_C_resolveAway_79 hl (k := 3) rfl rfl (by decide) rfl (fun ls hl => ?_)
                refine lv_goto (tgt := 16) hx hb d_C_resolveAway_82 (by decide) ?_
                exact ih _ _ _ _ _ _ _ _ _ h hw (lv_sub hl [1, 2, 3, 0] rfl) h85
              · have h := h.2 c_22
                refine lv_bipush (v := -3) hx hb d_C_resolveAway_69 (by decide) ?_
                exact x_iret C0 hw (C_size, C_given, C_empty, C_drafted, C_draftedGiven, C_block, C_left, C_right, C_pivot, C_positive, C_negative, C_live, C_needed) h rfl d_C_resolveAway_71
set_option maxHeartbeats 4000000 in
set_option maxRecDepth 100000 in
theorem b_C_resolveAway_L6 {p : Program} {l : Launch} {e : Env} {s : State} {m : MethodId} {args : Array Value} {below : List Frame} {meth : Method} {c : Code} {D : va_G} {ca : Nat → ClassId} {tp : Nat} {A : Nat → Prop} {ad : Nat → Nat} {T_length : Int32} {T_bytes : Nat → Int32} {C_size : Int32} {C_given : Int32} {C_empty : Int32} {C_draftedGiven : Int32} {C_needed : Nat → Int32} {R_kind : Int32} {R_place : Int32} {R_at : Int32} {R_token : Int32} {R_tokenPlace : Int32} {R_number : Int32} {R_state : Int32} {R_block : Int32} {R_positive : Int32} {R_negative : Int32} {R_left : Int32} {R_right : Int32} {R_pivot : Int32} {L_of : Nat → Int32} {F_cut : Int32} {F_labelledA : Int32} {F_labelledB : Int32} {F_row : Nat → Int64} {A_root : Int32} {A_words : Nat → Int64} {A_known : Nat → Int32} {G_size : Int32} {G_variable : Nat → Int32} {G_low : Nat → Int32} {G_high : Nat → Int32} {G_numberOf : Nat → Int32} {G_nodeOf : Nat → Int32} {G_sides : Nat → Int32} {G_waiting : Nat → Int32} {B_table : Nat → Int64} {B_nextTable : Nat → Int64} {x1 : Int32} {k : Int32 → Int32 → Int32 → Int32 → Int32 → Int32 → (Nat → Int32) → (Nat → Int32) → (Nat → Int32) → (Nat → Int32) → (Nat → Int32) → (Nat → Int32) → (Nat → Int32) → (Nat → Int32) → Prop}  (C0 : CX p s m args meth c b_C_resolveAway 4 (some .int) R_C "resolveAway" D ca tp A) :
    ∀ (n : Nat) (x2 : Int32) (C_drafted : Int32) (C_block : Nat → Int32) (C_left : Nat → Int32) (C_right : Nat → Int32) (C_pivot : Nat → Int32) (C_positive : Nat → Int32) (C_negative : Nat → Int32) (C_live : Nat → Int32) {H : Heap} {locs : List Loc} {ls : Array Slot}, p_C_resolveAway_L6 C_size C_given C_empty C_draftedGiven C_needed x1 k n x2 C_drafted C_block C_left C_right C_pivot C_positive C_negative C_live → WH D A s (WB ad ca T_length T_bytes C_size C_given C_empty C_drafted C_draftedGiven C_block C_left C_right C_pivot C_positive C_negative C_live C_needed R_kind R_place R_at R_token R_tokenPlace R_number R_state R_block R_positive R_negative R_left R_right R_pivot L_of F_cut F_labelledA F_labelledB F_row A_root A_words A_known G_size G_variable G_low G_high G_numberOf G_nodeOf G_sides G_waiting B_table B_nextTable) H locs → lv_has ls 4 [(0, .ref (ad 3)), (1, .int x1), (2, .int x2)] →
      W p l e rm_C_resolveAway s m args below meth c H locs 0 0 (QI D A below args s (fun r (u : Int32 × Int32 × Int32 × Int32 × Int32 × (Nat → Int32) × (Nat → Int32) × (Nat → Int32) × (Nat → Int32) × (Nat → Int32) × (Nat → Int32) × (Nat → Int32) × (Nat → Int32)) => k r u.1 u.2.1 u.2.2.1 u.2.2.2.1 u.2.2.2.2.1 u.2.2.2.2.2.1 u.2.2.2.2.2.2.1 u.2.2.2.2.2.2.2.1 u.2.2.2.2.2.2.2.2.1 u.2.2.2.2.2.2.2.2.2.1 u.2.2.2.2.2.2.2.2.2.2.1 u.2.2.2.2.2.2.2.2.2.2.2.1 u.2.2.2.2.2.2.2.2.2.2.2.2) (fun (u : Int32 × Int32 × Int32 × Int32 × Int32 × (Nat → Int32) × (Nat → Int32) × (Nat → Int32) × (Nat → Int32) × (Nat → Int32) × (Nat → Int32) × (Nat → Int32) × (Nat → Int32)) => WB ad ca T_length T_bytes u.1 u.2.1 u.2.2.1 u.2.2.2.1 u.2.2.2.2.1 u.2.2.2.2.2.1 u.2.2.2.2.2.2.1 u.2.2.2.2.2.2.2.1 u.2.2.2.2.2.2.2.2.1 u.2.2.2.2.2.2.2.2.2.1 u.2.2.2.2.2.2.2.2.2.2.1 u.2.2.2.2.2.2.2.2.2.2.2.1 u.2.2.2.2.2.2.2.2.2.2.2.2 R_kind R_place R_at R_token R_tokenPlace R_number R_state R_block R_positive R_negative R_left R_right R_pivot L_of F_cut F_labelledA F_labelledB F_row A_root A_words A_known G_size G_variable G_low G_high G_numberOf G_nodeOf G_sides G_waiting B_table B_nextTable) 0 0) (F0 m 6 ls []) := by
  have hx := C0.1
  have hb := C0.2.1
  intro n
  induction n with
  | zero =>
    intro x2 C_drafted C_block C_left C_right C_pivot C_positive C_negative C_live H locs ls h
    exact False.elim h
  | succ n ih =>
    intro x2 C_drafted C_block C_left C_right C_pivot C_positive C_negative C_live H locs ls h hw hl
    unfold p_C_resolveAway_L6 at h
    refine lv_iload_n hx hb d_C_resolveAway_6 rfl (lv_at hl 2 rfl) ?_
    refine lv_aload_n hx hb d_C_resolveAway_7 rfl (lv_at hl 0 rfl) ?_
    refine x_get C0 hw 3 rfl rfl i_C 8 (by decide) wm_118 rfl rfl d_C_resolveAway_8 ?_
    refine lv_icmp_gt (tgt := 91) hx hb d_C_resolveAway_11 (by decide) (fun c_4 => ?_) (fun c_4 => ?_)
    · have h := h.1 c_4
      refine lv_aload_n hx hb d_C_resolveAway_91 rfl (lv_at hl 0 rfl) ?_
      refine lv_iload_n hx hb d_C_resolveAway_92 rfl (lv_at hl 1 rfl) ?_
      refine x_callVv C0 hw hl (c_C_retire h) g_C_retire wm_537 ⟨wm_23, wm_539⟩ 3 rfl rfl rfl (As := [.int x1]) (rest := []) rfl rfl (Nat.le_of_ble_eq_true rfl) ⟨rfl, rfl⟩ ⟨Nat.le_of_ble_eq_true rfl, Nat.le_of_ble_eq_true rfl⟩ ⟨Nat.le_of_ble_eq_true rfl, Nat.le_of_ble_eq_true rfl⟩ d_C_resolveAway_93 (fun u H locs h hw => ?_)
      obtain ⟨C_live_5, rfl⟩ : ∃ z, z = u := ⟨_, rfl⟩
      refine lv_aload_n hx hb d_C_resolveAway_96 rfl (lv_at hl 0 rfl) ?_
      refine x_callVi C0 hw hl (c_C_keepDraft h) g_C_keepDraft wm_541 ⟨wm_486, wm_485⟩ 3 rfl rfl rfl (As := []) (rest := []) rfl rfl (Nat.le_of_ble_eq_true rfl) ⟨rfl, rfl⟩ ⟨Nat.le_of_ble_eq_true rfl, Nat.le_of_ble_eq_true rfl⟩ ⟨Nat.le_of_ble_eq_true rfl, Nat.le_of_ble_eq_true rfl⟩ d_C_resolveAway_97 (fun r_11 u H locs h hw => ?_)
      obtain ⟨C_size_7, C_given_8, C_empty_9, C_needed_10⟩ := u
      exact x_iret C0 hw (C_size_7, C_given_8, C_empty_9, C_drafted, C_draftedGiven, C_block, C_left, C_right, C_pivot, C_positive, C_negative, C_live_5, C_needed_10) h rfl d_C_resolveAway_100
    · have h := h.2 c_4
      refine lv_iconst (v := 1) hx hb d_C_resolveAway_14 (by decide) ?_
      refine lv_istore_n (lv' := [(3, .int (1 : Int32)), (0, .ref (ad 3)), (1, .int x1), (2, .int x2)]) hx hb d_C_resolveAway_15 rfl hl (by decide) rfl (fun ls hl => ?_)
      obtain ⟨j_40, h⟩ := h
      refine b_C_resolveAway_L16 C0 _ _ _ _ _ _ _ _ _ _ h hw (lv_sub hl [1, 2, 3, 0] rfl) (fun C_drafted_32 C_block_33 C_left_34 C_right_35 C_pivot_36 C_positive_37 C_negative_38 C_live_39 H locs ls h hw hl => ?_)
      refine lv_iinc (v := (x2 + 1)) (lv' := [(2, .int (x2 + 1)), (0, .ref (ad 3)), (1, .int x1)]) hx hb d_C_resolveAway_85 hl (k := 2) rfl rfl (by decide) rfl (fun ls hl => ?_)
      refine lv_goto (tgt := 6) hx hb d_C_resolveAway_88 (by decide) ?_
      exact ih _ _ _ _ _ _ _ _ _ h hw (lv_sub hl [1, 2, 0] rfl)
set_option maxHeartbeats 4000000 in
set_option maxRecDepth 100000 in
theorem c_C_resolveAway {l : Launch} {D : va_G} {ca : Nat → ClassId} {tp : Nat} {ad : Nat → Nat} {T_length : Int32} {T_bytes : Nat → Int32} {C_size : Int32} {C_given : Int32} {C_empty : Int32} {C_drafted : Int32} {C_draftedGiven : Int32} {C_block : Nat → Int32} {C_left : Nat → Int32} {C_right : Nat → Int32} {C_pivot : Nat → Int32} {C_positive : Nat → Int32} {C_negative : Nat → Int32} {C_live : Nat → Int32} {C_needed : Nat → Int32} {R_kind : Int32} {R_place : Int32} {R_at : Int32} {R_token : Int32} {R_tokenPlace : Int32} {R_number : Int32} {R_state : Int32} {R_block : Int32} {R_positive : Int32} {R_negative : Int32} {R_left : Int32} {R_right : Int32} {R_pivot : Int32} {L_of : Nat → Int32} {F_cut : Int32} {F_labelledA : Int32} {F_labelledB : Int32} {F_row : Nat → Int64} {A_root : Int32} {A_words : Nat → Int64} {A_known : Nat → Int32} {G_size : Int32} {G_variable : Nat → Int32} {G_low : Nat → Int32} {G_high : Nat → Int32} {G_numberOf : Nat → Int32} {G_nodeOf : Nat → Int32} {G_sides : Nat → Int32} {G_waiting : Nat → Int32} {B_table : Nat → Int64} {B_nextTable : Nat → Int64} {x1 : Int32} {k : Int32 → Int32 → Int32 → Int32 → Int32 → Int32 → (Nat → Int32) → (Nat → Int32) → (Nat → Int32) → (Nat → Int32) → (Nat → Int32) → (Nat → Int32) → (Nat → Int32) → (Nat → Int32) → Prop} (h : p_C_resolveAway C_size C_given C_empty C_block C_left C_right C_pivot C_positive C_negative C_live C_needed x1 k) :
    MTi l y_C_resolveAway b_C_resolveAway 4 (some .int) rm_C_resolveAway D ca tp [.ref (ad 3), .int x1] (WB ad ca T_length T_bytes C_size C_given C_empty C_drafted C_draftedGiven C_block C_left C_right C_pivot C_positive C_negative C_live C_needed R_kind R_place R_at R_token R_tokenPlace R_number R_state R_block R_positive R_negative R_left R_right R_pivot L_of F_cut F_labelledA F_labelledB F_row A_root A_words A_known G_size G_variable G_low G_high G_numberOf G_nodeOf G_sides G_waiting B_table B_nextTable)
      (fun r (u : Int32 × Int32 × Int32 × Int32 × Int32 × (Nat → Int32) × (Nat → Int32) × (Nat → Int32) × (Nat → Int32) × (Nat → Int32) × (Nat → Int32) × (Nat → Int32) × (Nat → Int32)) => k r u.1 u.2.1 u.2.2.1 u.2.2.2.1 u.2.2.2.2.1 u.2.2.2.2.2.1 u.2.2.2.2.2.2.1 u.2.2.2.2.2.2.2.1 u.2.2.2.2.2.2.2.2.1 u.2.2.2.2.2.2.2.2.2.1 u.2.2.2.2.2.2.2.2.2.2.1 u.2.2.2.2.2.2.2.2.2.2.2.1 u.2.2.2.2.2.2.2.2.2.2.2.2)
      (fun (u : Int32 × Int32 × Int32 × Int32 × Int32 × (Nat → Int32) × (Nat → Int32) × (Nat → Int32) × (Nat → Int32) × (Nat → Int32) × (Nat → Int32) × (Nat → Int32) × (Nat → Int32)) => WB ad ca T_length T_bytes u.1 u.2.1 u.2.2.1 u.2.2.2.1 u.2.2.2.2.1 u.2.2.2.2.2.1 u.2.2.2.2.2.2.1 u.2.2.2.2.2.2.2.1 u.2.2.2.2.2.2.2.2.1 u.2.2.2.2.2.2.2.2.2.1 u.2.2.2.2.2.2.2.2.2.2.1 u.2.2.2.2.2.2.2.2.2.2.2.1 u.2.2.2.2.2.2.2.2.2.2.2.2 R_kind R_place R_at R_token R_tokenPlace R_number R_state R_block R_positive R_negative R_left R_right R_pivot L_of F_cut F_labelledA F_labelledB F_row A_root A_words A_known G_size G_variable G_low G_high G_numberOf G_nodeOf G_sides G_waiting B_table B_nextTable) 0 0 := by
  refine x_entryi (own := R_C) (nm := "resolveAway") (by decide) rfl rfl (Nat.le_of_ble_eq_true rfl) (fun p e s m below meth c A ls C0 hw hl => ?_)
  have hx := C0.1
  have hb := C0.2.1
  have hl : lv_has ls 4 [(0, .ref (ad 3)), (1, .int x1)] := hl
  unfold p_C_resolveAway at h
  refine lv_aload_n hx hb d_C_resolveAway_0 rfl (lv_at hl 0 rfl) ?_
  refine x_callVv C0 hw hl (c_C_startDraft h) g_C_startDraft wm_529 ⟨wm_351, wm_350⟩ 3 rfl rfl rfl (As := []) (rest := []) rfl rfl (Nat.le_of_ble_eq_true rfl) ⟨rfl, rfl⟩ ⟨Nat.le_of_ble_eq_true rfl, Nat.le_of_ble_eq_true rfl⟩ ⟨Nat.le_of_ble_eq_true rfl, Nat.le_of_ble_eq_true rfl⟩ d_C_resolveAway_1 (fun u H locs h hw => ?_)
  obtain ⟨C_drafted_1, C_draftedGiven_2⟩ := u
  refine lv_iconst (v := 1) hx hb d_C_resolveAway_4 (by decide) ?_
  refine lv_istore_n (lv' := [(2, .int (1 : Int32)), (0, .ref (ad 3)), (1, .int x1)]) hx hb d_C_resolveAway_5 rfl hl (by decide) rfl (fun ls hl => ?_)
  obtain ⟨j_41, h⟩ := h
  refine b_C_resolveAway_L6 C0 _ _ _ _ _ _ _ _ _ _ h hw (lv_sub hl [1, 2, 0] rfl)
theorem g_C_allTrue : GY y_C_allTrue b_C_allTrue 7 (some .long) 3 := ⟨wm_703, wm_55, by decide +kernel, by decide +kernel, by decide +kernel⟩
def p_C_allTrue_L8 (C_size : Int32) (C_block : Nat → Int32) (C_positive : Nat → Int32) (C_negative : Nat → Int32) (x1 : Int32) (x2 : Int32) (x3 : Int32) (k : Int64 → Prop) : Nat → Int64 → Int32 → Prop
  | 0, _, _ => False
  | n + 1, x4, x6 =>
    ((C_size < x6 → (k x4)) ∧ (¬ C_size < x6 → (p_C_isGivenOf C_block x6 x1 x2 (fun (r_2 : Int32) => ((r_2 = 0 → (p_C_allTrue_L8 C_size C_block C_positive C_negative x1 x2 x3 k n x4 (x6 + 1))) ∧ (¬ r_2 = 0 → (vp_in x6 201 ∧ (p_U_ofAny (C_positive x6.toNatClampNeg) (C_negative x6.toNatClampNeg) x3 (fun (r_5 : Int64) => (p_C_allTrue_L8 C_size C_block C_positive C_negative x1 x2 x3 k n (x4 &&& r_5) (x6 + 1)))))))))))
def p_C_allTrue (C_size : Int32) (C_block : Nat → Int32) (C_positive : Nat → Int32) (C_negative : Nat → Int32) (x1 : Int32) (x2 : Int32) (x3 : Int32) (k : Int64 → Prop) : Prop :=
  (∃ j_6, p_C_allTrue_L8 C_size C_block C_positive C_negative x1 x2 x3 k j_6 (-1 : Int64) (1 : Int32))
abbrev rm_C_allTrue : Room := { frames := 2, cells := 0, slots := 0, locals := 46 }
set_option maxHeartbeats 4000000 in
set_option maxRecDepth 100000 in
theorem b_C_allTrue_L8 {p : Program} {l : Launch} {e : Env} {s : State} {m : MethodId} {args : Array Value} {below : List Frame} {meth : Method} {c : Code} {D : va_G} {ca : Nat → ClassId} {tp : Nat} {A : Nat → Prop} {ad : Nat → Nat} {T_length : Int32} {T_bytes : Nat → Int32} {C_size : Int32} {C_given : Int32} {C_empty : Int32} {C_drafted : Int32} {C_draftedGiven : Int32} {C_block : Nat → Int32} {C_left : Nat → Int32} {C_right : Nat → Int32} {C_pivot : Nat → Int32} {C_positive : Nat → Int32} {C_negative : Nat → Int32} {C_live : Nat → Int32} {C_needed : Nat → Int32} {R_kind : Int32} {R_place : Int32} {R_at : Int32} {R_token : Int32} {R_tokenPlace : Int32} {R_number : Int32} {R_state : Int32} {R_block : Int32} {R_positive : Int32} {R_negative : Int32} {R_left : Int32} {R_right : Int32} {R_pivot : Int32} {L_of : Nat → Int32} {F_cut : Int32} {F_labelledA : Int32} {F_labelledB : Int32} {F_row : Nat → Int64} {A_root : Int32} {A_words : Nat → Int64} {A_known : Nat → Int32} {G_size : Int32} {G_variable : Nat → Int32} {G_low : Nat → Int32} {G_high : Nat → Int32} {G_numberOf : Nat → Int32} {G_nodeOf : Nat → Int32} {G_sides : Nat → Int32} {G_waiting : Nat → Int32} {B_table : Nat → Int64} {B_nextTable : Nat → Int64} {x1 : Int32} {x2 : Int32} {x3 : Int32} {k : Int64 → Prop}  (C0 : CX p s m args meth c b_C_allTrue 7 (some .long) R_C "allTrue" D ca tp A) :
    ∀ (n : Nat) (x4 : Int64) (x6 : Int32) {H : Heap} {locs : List Loc} {ls : Array Slot}, p_C_allTrue_L8 C_size C_block C_positive C_negative x1 x2 x3 k n x4 x6 → WH D A s (WB ad ca T_length T_bytes C_size C_given C_empty C_drafted C_draftedGiven C_block C_left C_right C_pivot C_positive C_negative C_live C_needed R_kind R_place R_at R_token R_tokenPlace R_number R_state R_block R_positive R_negative R_left R_right R_pivot L_of F_cut F_labelledA F_labelledB F_row A_root A_words A_known G_size G_variable G_low G_high G_numberOf G_nodeOf G_sides G_waiting B_table B_nextTable) H locs → lv_has ls 7 [(0, .ref (ad 3)), (1, .int x1), (2, .int x2), (3, .int x3), (4, .long x4), (6, .int x6)] →
      W p l e rm_C_allTrue s m args below meth c H locs 0 0 (QL D A below args s (fun r (_ : Unit) => k r) (fun (_ : Unit) => WB ad ca T_length T_bytes C_size C_given C_empty C_drafted C_draftedGiven C_block C_left C_right C_pivot C_positive C_negative C_live C_needed R_kind R_place R_at R_token R_tokenPlace R_number R_state R_block R_positive R_negative R_left R_right R_pivot L_of F_cut F_labelledA F_labelledB F_row A_root A_words A_known G_size G_variable G_low G_high G_numberOf G_nodeOf G_sides G_waiting B_table B_nextTable) 0 0) (F0 m 8 ls []) := by
  have hx := C0.1
  have hb := C0.2.1
  intro n
  induction n with
  | zero =>
    intro x4 x6 H locs ls h
    exact False.elim h
  | succ n ih =>
    intro x4 x6 H locs ls h hw hl
    unfold p_C_allTrue_L8 at h
    refine lv_iload hx hb d_C_allTrue_8 (lv_at hl 5 rfl) ?_
    refine lv_aload_n hx hb d_C_allTrue_10 rfl (lv_at hl 0 rfl) ?_
    refine x_get C0 hw 3 rfl rfl i_C 8 (by decide) wm_118 rfl rfl d_C_allTrue_11 ?_
    refine lv_icmp_gt (tgt := 57) hx hb d_C_allTrue_14 (by decide) (fun c_1 => ?_) (fun c_1 => ?_)
    · have h := h.1 c_1
      refine lv_lload hx hb d_C_allTrue_57 (lv_at hl 4 rfl) ?_
      exact x_lret C0 hw () h rfl d_C_allTrue_59
    · have h := h.2 c_1
      refine lv_aload_n hx hb d_C_allTrue_17 rfl (lv_at hl 0 rfl) ?_
      refine lv_iload hx hb d_C_allTrue_18 (lv_at hl 5 rfl) ?_
      refine lv_iload_n hx hb d_C_allTrue_20 rfl (lv_at hl 1 rfl) ?_
      refine lv_iload_n hx hb d_C_allTrue_21 rfl (lv_at hl 2 rfl) ?_
      refine x_callVi C0 hw hl (c_C_isGivenOf h) g_C_isGivenOf wm_561 ⟨wm_24, wm_563⟩ 3 rfl rfl rfl (As := [.int x6, .int x1, .int x2]) (rest := []) rfl rfl (Nat.le_of_ble_eq_true rfl) ⟨rfl, rfl⟩ ⟨Nat.le_of_ble_eq_true rfl, Nat.le_of_ble_eq_true rfl⟩ ⟨Nat.le_of_ble_eq_true rfl, Nat.le_of_ble_eq_true rfl⟩ d_C_allTrue_22 (fun r_2 u H locs h hw => ?_)
      refine lv_if_eq (tgt := 51) hx hb d_C_allTrue_25 (by decide) (fun c_3 => ?_) (fun c_3 => ?_)
      · have h := h.1 c_3
        refine lv_iinc (v := (x6 + 1)) (lv' := [(6, .int (x6 + 1)), (0, .ref (ad 3)), (1, .int x1), (2, .int x2), (3, .int x3), (4, .long x4)]) hx hb d_C_allTrue_51 hl (k := 5) rfl rfl (by decide) rfl (fun ls hl => ?_)
        refine lv_goto (tgt := 8) hx hb d_C_allTrue_54 (by decide) ?_
        exact ih _ _ h hw (lv_sub hl [1, 2, 3, 4, 5, 0] rfl)
      · have h := h.2 c_3
        refine lv_lload hx hb d_C_allTrue_28 (lv_at hl 4 rfl) ?_
        refine lv_aload_n hx hb d_C_allTrue_30 rfl (lv_at hl 0 rfl) ?_
        refine x_get C0 hw 3 rfl rfl i_C 4 (by decide) wm_107 rfl rfl d_C_allTrue_31 ?_
        refine lv_iload hx hb d_C_allTrue_34 (lv_at hl 5 rfl) ?_
        obtain ⟨hi_4, h⟩ := h
        refine x_iald C0 hw 8 rfl hi_4 d_C_allTrue_36 ?_
        refine lv_aload_n hx hb d_C_allTrue_37 rfl (lv_at hl 0 rfl) ?_
        refine x_get C0 hw 3 rfl rfl i_C 5 (by decide) wm_110 rfl rfl d_C_allTrue_38 ?_
        refine lv_iload hx hb d_C_allTrue_41 (lv_at hl 5 rfl) ?_
        refine x_iald C0 hw 9 rfl hi_4 d_C_allTrue_43 ?_
        refine lv_iload_n hx hb d_C_allTrue_44 rfl (lv_at hl 3 rfl) ?_
        refine x_callSl C0 hw hl (c_U_ofAny h) g_U_ofAny wm_705 wm_611 (As := [.int (C_positive x6.toNatClampNeg), .int (C_negative x6.toNatClampNeg), .int x3]) (rest := [.long x4]) rfl rfl (Nat.le_of_ble_eq_true rfl) ⟨rfl, rfl⟩ ⟨Nat.le_of_ble_eq_true rfl, Nat.le_of_ble_eq_true rfl⟩ ⟨Nat.le_of_ble_eq_true rfl, Nat.le_of_ble_eq_true rfl⟩ d_C_allTrue_45 (fun r_5 u H locs h hw => ?_)
        refine lv_land hx hb d_C_allTrue_48 ?_
        refine lv_lstore (lv' := [(4, .long (x4 &&& r_5)), (0, .ref (ad 3)), (1, .int x1), (2, .int x2), (3, .int x3), (6, .int x6)]) hx hb d_C_allTrue_49 hl (by decide) rfl (fun ls hl => ?_)
        refine lv_iinc (v := (x6 + 1)) (lv' := [(6, .int (x6 + 1)), (4, .long (x4 &&& r_5)), (0, .ref (ad 3)), (1, .int x1), (2, .int x2), (3, .int x3)]) hx hb d_C_allTrue_51 hl (k := 5) rfl rfl (by decide) rfl (fun ls hl => ?_)
        refine lv_goto (tgt := 8) hx hb d_C_allTrue_54 (by decide) ?_
        exact ih _ _ h hw (lv_sub hl [2, 3, 4, 5, 1, 0] rfl)
set_option maxHeartbeats 4000000 in
set_option maxRecDepth 100000 in
theorem c_C_allTrue {l : Launch} {D : va_G} {ca : Nat → ClassId} {tp : Nat} {ad : Nat → Nat} {T_length : Int32} {T_bytes : Nat → Int32} {C_size : Int32} {C_given : Int32} {C_empty : Int32} {C_drafted : Int32} {C_draftedGiven : Int32} {C_block : Nat → Int32} {C_left : Nat → Int32} {C_right : Nat → Int32} {C_pivot : Nat → Int32} {C_positive : Nat → Int32} {C_negative : Nat → Int32} {C_live : Nat → Int32} {C_needed : Nat → Int32} {R_kind : Int32} {R_place : Int32} {R_at : Int32} {R_token : Int32} {R_tokenPlace : Int32} {R_number : Int32} {R_state : Int32} {R_block : Int32} {R_positive : Int32} {R_negative : Int32} {R_left : Int32} {R_right : Int32} {R_pivot : Int32} {L_of : Nat → Int32} {F_cut : Int32} {F_labelledA : Int32} {F_labelledB : Int32} {F_row : Nat → Int64} {A_root : Int32} {A_words : Nat → Int64} {A_known : Nat → Int32} {G_size : Int32} {G_variable : Nat → Int32} {G_low : Nat → Int32} {G_high : Nat → Int32} {G_numberOf : Nat → Int32} {G_nodeOf : Nat → Int32} {G_sides : Nat → Int32} {G_waiting : Nat → Int32} {B_table : Nat → Int64} {B_nextTable : Nat → Int64} {x1 : Int32} {x2 : Int32} {x3 : Int32} {k : Int64 → Prop} (h : p_C_allTrue C_size C_block C_positive C_negative x1 x2 x3 k) :
    MTl l y_C_allTrue b_C_allTrue 7 (some .long) rm_C_allTrue D ca tp [.ref (ad 3), .int x1, .int x2, .int x3] (WB ad ca T_length T_bytes C_size C_given C_empty C_drafted C_draftedGiven C_block C_left C_right C_pivot C_positive C_negative C_live C_needed R_kind R_place R_at R_token R_tokenPlace R_number R_state R_block R_positive R_negative R_left R_right R_pivot L_of F_cut F_labelledA F_labelledB F_row A_root A_words A_known G_size G_variable G_low G_high G_numberOf G_nodeOf G_sides G_waiting B_table B_nextTable)
      (fun r (_ : Unit) => k r)
      (fun (_ : Unit) => WB ad ca T_length T_bytes C_size C_given C_empty C_drafted C_draftedGiven C_block C_left C_right C_pivot C_positive C_negative C_live C_needed R_kind R_place R_at R_token R_tokenPlace R_number R_state R_block R_positive R_negative R_left R_right R_pivot L_of F_cut F_labelledA F_labelledB F_row A_root A_words A_known G_size G_variable G_low G_high G_numberOf G_nodeOf G_sides G_waiting B_table B_nextTable) 0 0 := by
  refine x_entryl (own := R_C) (nm := "allTrue") (by decide) rfl rfl (Nat.le_of_ble_eq_true rfl) (fun p e s m below meth c A ls C0 hw hl => ?_)
  have hx := C0.1
  have hb := C0.2.1
  have hl : lv_has ls 7 [(0, .ref (ad 3)), (1, .int x1), (2, .int x2), (3, .int x3)] := hl
  unfold p_C_allTrue at h
  refine x_ldc2 C0 wm_704 d_C_allTrue_0 ?_
  refine lv_lstore (lv' := [(4, .long (-1 : Int64)), (0, .ref (ad 3)), (1, .int x1), (2, .int x2), (3, .int x3)]) hx hb d_C_allTrue_3 hl (by decide) rfl (fun ls hl => ?_)
  refine lv_iconst (v := 1) hx hb d_C_allTrue_5 (by decide) ?_
  refine lv_istore (lv' := [(6, .int (1 : Int32)), (4, .long (-1 : Int64)), (0, .ref (ad 3)), (1, .int x1), (2, .int x2), (3, .int x3)]) hx hb d_C_allTrue_6 hl (by decide) rfl (fun ls hl => ?_)
  obtain ⟨j_6, h⟩ := h
  refine b_C_allTrue_L8 C0 _ _ _ h hw (lv_sub hl [2, 3, 4, 5, 1, 0] rfl)
theorem g_C_liveOnes : GY y_C_liveOnes b_C_liveOnes 3 (some .int) 0 := ⟨wm_714, wm_55, by decide +kernel, by decide +kernel, by decide +kernel⟩
def p_C_liveOnes_L4 (C_size : Int32) (C_live : Nat → Int32) (k : Int32 → Prop) : Nat → Int32 → Int32 → Prop
  | 0, _, _ => False
  | n + 1, x1, x2 =>
    ((C_size < x2 → (k x1)) ∧ (¬ C_size < x2 → (vp_in x2 201 ∧ (((C_live x2.toNatClampNeg) = 0 → (p_C_liveOnes_L4 C_size C_live k n (x1 + (0 : Int32)) (x2 + 1))) ∧ (¬ (C_live x2.toNatClampNeg) = 0 → (p_C_liveOnes_L4 C_size C_live k n (x1 + (1 : Int32)) (x2 + 1)))))))
def p_C_liveOnes (C_size : Int32) (C_live : Nat → Int32) (k : Int32 → Prop) : Prop :=
  (∃ j_4, p_C_liveOnes_L4 C_size C_live k j_4 (0 : Int32) (1 : Int32))
abbrev rm_C_liveOnes : Room := { frames := 0, cells := 0, slots := 0, locals := 0 }
set_option maxHeartbeats 4000000 in
set_option maxRecDepth 100000 in
theorem b_C_liveOnes_L4 {p : Program} {l : Launch} {e : Env} {s : State} {m : MethodId} {args : Array Value} {below : List Frame} {meth : Method} {c : Code} {D : va_G} {ca : Nat → ClassId} {tp : Nat} {A : Nat → Prop} {ad : Nat → Nat} {T_length : Int32} {T_bytes : Nat → Int32} {C_size : Int32} {C_given : Int32} {C_empty : Int32} {C_drafted : Int32} {C_draftedGiven : Int32} {C_block : Nat → Int32} {C_left : Nat → Int32} {C_right : Nat → Int32} {C_pivot : Nat → Int32} {C_positive : Nat → Int32} {C_negative : Nat → Int32} {C_live : Nat → Int32} {C_needed : Nat → Int32} {R_kind : Int32} {R_place : Int32} {R_at : Int32} {R_token : Int32} {R_tokenPlace : Int32} {R_number : Int32} {R_state : Int32} {R_block : Int32} {R_positive : Int32} {R_negative : Int32} {R_left : Int32} {R_right : Int32} {R_pivot : Int32} {L_of : Nat → Int32} {F_cut : Int32} {F_labelledA : Int32} {F_labelledB : Int32} {F_row : Nat → Int64} {A_root : Int32} {A_words : Nat → Int64} {A_known : Nat → Int32} {G_size : Int32} {G_variable : Nat → Int32} {G_low : Nat → Int32} {G_high : Nat → Int32} {G_numberOf : Nat → Int32} {G_nodeOf : Nat → Int32} {G_sides : Nat → Int32} {G_waiting : Nat → Int32} {B_table : Nat → Int64} {B_nextTable : Nat → Int64}  {k : Int32 → Prop}  (C0 : CX p s m args meth c b_C_liveOnes 3 (some .int) R_C "liveOnes" D ca tp A) :
    ∀ (n : Nat) (x1 : Int32) (x2 : Int32) {H : Heap} {locs : List Loc} {ls : Array Slot}, p_C_liveOnes_L4 C_size C_live k n x1 x2 → WH D A s (WB ad ca T_length T_bytes C_size C_given C_empty C_drafted C_draftedGiven C_block C_left C_right C_pivot C_positive C_negative C_live C_needed R_kind R_place R_at R_token R_tokenPlace R_number R_state R_block R_positive R_negative R_left R_right R_pivot L_of F_cut F_labelledA F_labelledB F_row A_root A_words A_known G_size G_variable G_low G_high G_numberOf G_nodeOf G_sides G_waiting B_table B_nextTable) H locs → lv_has ls 3 [(0, .ref (ad 3)), (1, .int x1), (2, .int x2)] →
      W p l e rm_C_liveOnes s m args below meth c H locs 0 0 (QI D A below args s (fun r (_ : Unit) => k r) (fun (_ : Unit) => WB ad ca T_length T_bytes C_size C_given C_empty C_drafted C_draftedGiven C_block C_left C_right C_pivot C_positive C_negative C_live C_needed R_kind R_place R_at R_token R_tokenPlace R_number R_state R_block R_positive R_negative R_left R_right R_pivot L_of F_cut F_labelledA F_labelledB F_row A_root A_words A_known G_size G_variable G_low G_high G_numberOf G_nodeOf G_sides G_waiting B_table B_nextTable) 0 0) (F0 m 4 ls []) := by
  have hx := C0.1
  have hb := C0.2.1
  intro n
  induction n with
  | zero =>
    intro x1 x2 H locs ls h
    exact False.elim h
  | succ n ih =>
    intro x1 x2 H locs ls h hw hl
    unfold p_C_liveOnes_L4 at h
    refine lv_iload_n hx hb d_C_liveOnes_4 rfl (lv_at hl 2 rfl) ?_
    refine lv_aload_n hx hb d_C_liveOnes_5 rfl (lv_at hl 0 rfl) ?_
    refine x_get C0 hw 3 rfl rfl i_C 8 (by decide) wm_118 rfl rfl d_C_liveOnes_6 ?_
    refine lv_icmp_gt (tgt := 35) hx hb d_C_liveOnes_9 (by decide) (fun c_1 => ?_) (fun c_1 => ?_)
    · have h := h.1 c_1
      refine lv_iload_n hx hb d_C_liveOnes_35 rfl (lv_at hl 1 rfl) ?_
      exact x_iret C0 hw () h rfl d_C_liveOnes_36
    · have h := h.2 c_1
      refine lv_iload_n hx hb d_C_liveOnes_12 rfl (lv_at hl 1 rfl) ?_
      refine lv_aload_n hx hb d_C_liveOnes_13 rfl (lv_at hl 0 rfl) ?_
      refine x_get C0 hw 3 rfl rfl i_C 6 (by decide) wm_113 rfl rfl d_C_liveOnes_14 ?_
      refine lv_iload_n hx hb d_C_liveOnes_17 rfl (lv_at hl 2 rfl) ?_
      obtain ⟨hi_2, h⟩ := h
      refine x_zald C0 hw 10 rfl hi_2 d_C_liveOnes_18 ?_
      refine lv_if_eq (tgt := 26) hx hb d_C_liveOnes_19 (by decide) (fun c_3 => ?_) (fun c_3 => ?_)
      · have h := h.1 c_3
        refine lv_iconst (v := 0) hx hb d_C_liveOnes_26 (by decide) ?_
        refine lv_iadd hx hb d_C_liveOnes_27 ?_
        refine lv_istore_n (lv' := [(1, .int (x1 + (0 : Int32))), (0, .ref (ad 3)), (2, .int x2)]) hx hb d_C_liveOnes_28 rfl hl (by decide) rfl (fun ls hl => ?_)
        refine lv_iinc (v := (x2 + 1)) (lv' := [(2, .int (x2 + 1)), (1, .int (x1 + (0 : Int32))), (0, .ref (ad 3))]) hx hb d_C_liveOnes_29 hl (k := 2) rfl rfl (by decide) rfl (fun ls hl => ?_)
        refine lv_goto (tgt := 4) hx hb d_C_liveOnes_32 (by decide) ?_
        exact ih _ _ h hw (lv_sub hl [2, 1, 0] rfl)
      · have h := h.2 c_3
        refine lv_iconst (v := 1) hx hb d_C_liveOnes_22 (by decide) ?_
        refine lv_goto (tgt := 27) hx hb d_C_liveOnes_23 (by decide) ?_
        refine lv_iadd hx hb d_C_liveOnes_27 ?_
        refine lv_istore_n (lv' := [(1, .int (x1 + (1 : Int32))), (0, .ref (ad 3)), (2, .int x2)]) hx hb d_C_liveOnes_28 rfl hl (by decide) rfl (fun ls hl => ?_)
        refine lv_iinc (v := (x2 + 1)) (lv' := [(2, .int (x2 + 1)), (1, .int (x1 + (1 : Int32))), (0, .ref (ad 3))]) hx hb d_C_liveOnes_29 hl (k := 2) rfl rfl (by decide) rfl (fun ls hl => ?_)
        refine lv_goto (tgt := 4) hx hb d_C_liveOnes_32 (by decide) ?_
        exact ih _ _ h hw (lv_sub hl [2, 1, 0] rfl)
set_option maxHeartbeats 4000000 in
set_option maxRecDepth 100000 in
theorem c_C_liveOnes {l : Launch} {D : va_G} {ca : Nat → ClassId} {tp : Nat} {ad : Nat → Nat} {T_length : Int32} {T_bytes : Nat → Int32} {C_size : Int32} {C_given : Int32} {C_empty : Int32} {C_drafted : Int32} {C_draftedGiven : Int32} {C_block : Nat → Int32} {C_left : Nat → Int32} {C_right : Nat → Int32} {C_pivot : Nat → Int32} {C_positive : Nat → Int32} {C_negative : Nat → Int32} {C_live : Nat → Int32} {C_needed : Nat → Int32} {R_kind : Int32} {R_place : Int32} {R_at : Int32} {R_token : Int32} {R_tokenPlace : Int32} {R_number : Int32} {R_state : Int32} {R_block : Int32} {R_positive : Int32} {R_negative : Int32} {R_left : Int32} {R_right : Int32} {R_pivot : Int32} {L_of : Nat → Int32} {F_cut : Int32} {F_labelledA : Int32} {F_labelledB : Int32} {F_row : Nat → Int64} {A_root : Int32} {A_words : Nat → Int64} {A_known : Nat → Int32} {G_size : Int32} {G_variable : Nat → Int32} {G_low : Nat → Int32} {G_high : Nat → Int32} {G_numberOf : Nat → Int32} {G_nodeOf : Nat → Int32} {G_sides : Nat → Int32} {G_waiting : Nat → Int32} {B_table : Nat → Int64} {B_nextTable : Nat → Int64}  {k : Int32 → Prop} (h : p_C_liveOnes C_size C_live k) :
    MTi l y_C_liveOnes b_C_liveOnes 3 (some .int) rm_C_liveOnes D ca tp [.ref (ad 3)] (WB ad ca T_length T_bytes C_size C_given C_empty C_drafted C_draftedGiven C_block C_left C_right C_pivot C_positive C_negative C_live C_needed R_kind R_place R_at R_token R_tokenPlace R_number R_state R_block R_positive R_negative R_left R_right R_pivot L_of F_cut F_labelledA F_labelledB F_row A_root A_words A_known G_size G_variable G_low G_high G_numberOf G_nodeOf G_sides G_waiting B_table B_nextTable)
      (fun r (_ : Unit) => k r)
      (fun (_ : Unit) => WB ad ca T_length T_bytes C_size C_given C_empty C_drafted C_draftedGiven C_block C_left C_right C_pivot C_positive C_negative C_live C_needed R_kind R_place R_at R_token R_tokenPlace R_number R_state R_block R_positive R_negative R_left R_right R_pivot L_of F_cut F_labelledA F_labelledB F_row A_root A_words A_known G_size G_variable G_low G_high G_numberOf G_nodeOf G_sides G_waiting B_table B_nextTable) 0 0 := by
  refine x_entryi (own := R_C) (nm := "liveOnes") (by decide) rfl rfl (Nat.le_of_ble_eq_true rfl) (fun p e s m below meth c A ls C0 hw hl => ?_)
  have hx := C0.1
  have hb := C0.2.1
  have hl : lv_has ls 3 [(0, .ref (ad 3))] := hl
  unfold p_C_liveOnes at h
  refine lv_iconst (v := 0) hx hb d_C_liveOnes_0 (by decide) ?_
  refine lv_istore_n (lv' := [(1, .int (0 : Int32)), (0, .ref (ad 3))]) hx hb d_C_liveOnes_1 rfl hl (by decide) rfl (fun ls hl => ?_)
  refine lv_iconst (v := 1) hx hb d_C_liveOnes_2 (by decide) ?_
  refine lv_istore_n (lv' := [(2, .int (1 : Int32)), (1, .int (0 : Int32)), (0, .ref (ad 3))]) hx hb d_C_liveOnes_3 rfl hl (by decide) rfl (fun ls hl => ?_)
  obtain ⟨j_4, h⟩ := h
  refine b_C_liveOnes_L4 C0 _ _ _ h hw (lv_sub hl [2, 1, 0] rfl)
theorem g_C_neededOnes : GY y_C_neededOnes b_C_neededOnes 3 (some .int) 0 := ⟨wm_718, wm_55, by decide +kernel, by decide +kernel, by decide +kernel⟩
def p_C_neededOnes_L4 (C_empty : Int32) (C_needed : Nat → Int32) (k : Int32 → Prop) : Nat → Int32 → Int32 → Prop
  | 0, _, _ => False
  | n + 1, x1, x2 =>
    ((C_empty < x2 → (k x1)) ∧ (¬ C_empty < x2 → (vp_in x2 201 ∧ (((C_needed x2.toNatClampNeg) = 0 → (p_C_neededOnes_L4 C_empty C_needed k n (x1 + (0 : Int32)) (x2 + 1))) ∧ (¬ (C_needed x2.toNatClampNeg) = 0 → (p_C_neededOnes_L4 C_empty C_needed k n (x1 + (1 : Int32)) (x2 + 1)))))))
def p_C_neededOnes (C_empty : Int32) (C_needed : Nat → Int32) (k : Int32 → Prop) : Prop :=
  (∃ j_4, p_C_neededOnes_L4 C_empty C_needed k j_4 (0 : Int32) (1 : Int32))
abbrev rm_C_neededOnes : Room := { frames := 0, cells := 0, slots := 0, locals := 0 }
set_option maxHeartbeats 4000000 in
set_option maxRecDepth 100000 in
theorem b_C_neededOnes_L4 {p : Program} {l : Launch} {e : Env} {s : State} {m : MethodId} {args : Array Value} {below : List Frame} {meth : Method} {c : Code} {D : va_G} {ca : Nat → ClassId} {tp : Nat} {A : Nat → Prop} {ad : Nat → Nat} {T_length : Int32} {T_bytes : Nat → Int32} {C_size : Int32} {C_given : Int32} {C_empty : Int32} {C_drafted : Int32} {C_draftedGiven : Int32} {C_block : Nat → Int32} {C_left : Nat → Int32} {C_right : Nat → Int32} {C_pivot : Nat → Int32} {C_positive : Nat → Int32} {C_negative : Nat → Int32} {C_live : Nat → Int32} {C_needed : Nat → Int32} {R_kind : Int32} {R_place : Int32} {R_at : Int32} {R_token : Int32} {R_tokenPlace : Int32} {R_number : Int32} {R_state : Int32} {R_block : Int32} {R_positive : Int32} {R_negative : Int32} {R_left : Int32} {R_right : Int32} {R_pivot : Int32} {L_of : Nat → Int32} {F_cut : Int32} {F_labelledA : Int32} {F_labelledB : Int32} {F_row : Nat → Int64} {A_root : Int32} {A_words : Nat → Int64} {A_known : Nat → Int32} {G_size : Int32} {G_variable : Nat → Int32} {G_low : Nat → Int32} {G_high : Nat → Int32} {G_numberOf : Nat → Int32} {G_nodeOf : Nat → Int32} {G_sides : Nat → Int32} {G_waiting : Nat → Int32} {B_table : Nat → Int64} {B_nextTable : Nat → Int64}  {k : Int32 → Prop}  (C0 : CX p s m args meth c b_C_neededOnes 3 (some .int) R_C "neededOnes" D ca tp A) :
    ∀ (n : Nat) (x1 : Int32) (x2 : Int32) {H : Heap} {locs : List Loc} {ls : Array Slot}, p_C_neededOnes_L4 C_empty C_needed k n x1 x2 → WH D A s (WB ad ca T_length T_bytes C_size C_given C_empty C_drafted C_draftedGiven C_block C_left C_right C_pivot C_positive C_negative C_live C_needed R_kind R_place R_at R_token R_tokenPlace R_number R_state R_block R_positive R_negative R_left R_right R_pivot L_of F_cut F_labelledA F_labelledB F_row A_root A_words A_known G_size G_variable G_low G_high G_numberOf G_nodeOf G_sides G_waiting B_table B_nextTable) H locs → lv_has ls 3 [(0, .ref (ad 3)), (1, .int x1), (2, .int x2)] →
      W p l e rm_C_neededOnes s m args below meth c H locs 0 0 (QI D A below args s (fun r (_ : Unit) => k r) (fun (_ : Unit) => WB ad ca T_length T_bytes C_size C_given C_empty C_drafted C_draftedGiven C_block C_left C_right C_pivot C_positive C_negative C_live C_needed R_kind R_place R_at R_token R_tokenPlace R_number R_state R_block R_positive R_negative R_left R_right R_pivot L_of F_cut F_labelledA F_labelledB F_row A_root A_words A_known G_size G_variable G_low G_high G_numberOf G_nodeOf G_sides G_waiting B_table B_nextTable) 0 0) (F0 m 4 ls []) := by
  have hx := C0.1
  have hb := C0.2.1
  intro n
  induction n with
  | zero =>
    intro x1 x2 H locs ls h
    exact False.elim h
  | succ n ih =>
    intro x1 x2 H locs ls h hw hl
    unfold p_C_neededOnes_L4 at h
    refine lv_iload_n hx hb d_C_neededOnes_4 rfl (lv_at hl 2 rfl) ?_
    refine lv_aload_n hx hb d_C_neededOnes_5 rfl (lv_at hl 0 rfl) ?_
    refine x_get C0 hw 3 rfl rfl i_C 10 (by decide) wm_125 rfl rfl d_C_neededOnes_6 ?_
    refine lv_icmp_gt (tgt := 35) hx hb d_C_neededOnes_9 (by decide) (fun c_1 => ?_) (fun c_1 => ?_)
    · have h := h.1 c_1
      refine lv_iload_n hx hb d_C_neededOnes_35 rfl (lv_at hl 1 rfl) ?_
      exact x_iret C0 hw () h rfl d_C_neededOnes_36
    · have h := h.2 c_1
      refine lv_iload_n hx hb d_C_neededOnes_12 rfl (lv_at hl 1 rfl) ?_
      refine lv_aload_n hx hb d_C_neededOnes_13 rfl (lv_at hl 0 rfl) ?_
      refine x_get C0 hw 3 rfl rfl i_C 7 (by decide) wm_114 rfl rfl d_C_neededOnes_14 ?_
      refine lv_iload_n hx hb d_C_neededOnes_17 rfl (lv_at hl 2 rfl) ?_
      obtain ⟨hi_2, h⟩ := h
      refine x_zald C0 hw 11 rfl hi_2 d_C_neededOnes_18 ?_
      refine lv_if_eq (tgt := 26) hx hb d_C_neededOnes_19 (by decide) (fun c_3 => ?_) (fun c_3 => ?_)
      · have h := h.1 c_3
        refine lv_iconst (v := 0) hx hb d_C_neededOnes_26 (by decide) ?_
        refine lv_iadd hx hb d_C_neededOnes_27 ?_
        refine lv_istore_n (lv' := [(1, .int (x1 + (0 : Int32))), (0, .ref (ad 3)), (2, .int x2)]) hx hb d_C_neededOnes_28 rfl hl (by decide) rfl (fun ls hl => ?_)
        refine lv_iinc (v := (x2 + 1)) (lv' := [(2, .int (x2 + 1)), (1, .int (x1 + (0 : Int32))), (0, .ref (ad 3))]) hx hb d_C_neededOnes_29 hl (k := 2) rfl rfl (by decide) rfl (fun ls hl => ?_)
        refine lv_goto (tgt := 4) hx hb d_C_neededOnes_32 (by decide) ?_
        exact ih _ _ h hw (lv_sub hl [2, 1, 0] rfl)
      · have h := h.2 c_3
        refine lv_iconst (v := 1) hx hb d_C_neededOnes_22 (by decide) ?_
        refine lv_goto (tgt := 27) hx hb d_C_neededOnes_23 (by decide) ?_
        refine lv_iadd hx hb d_C_neededOnes_27 ?_
        refine lv_istore_n (lv' := [(1, .int (x1 + (1 : Int32))), (0, .ref (ad 3)), (2, .int x2)]) hx hb d_C_neededOnes_28 rfl hl (by decide) rfl (fun ls hl => ?_)
        refine lv_iinc (v := (x2 + 1)) (lv' := [(2, .int (x2 + 1)), (1, .int (x1 + (1 : Int32))), (0, .ref (ad 3))]) hx hb d_C_neededOnes_29 hl (k := 2) rfl rfl (by decide) rfl (fun ls hl => ?_)
        refine lv_goto (tgt := 4) hx hb d_C_neededOnes_32 (by decide) ?_
        exact ih _ _ h hw (lv_sub hl [2, 1, 0] rfl)
set_option maxHeartbeats 4000000 in
set_option maxRecDepth 100000 in
theorem c_C_neededOnes {l : Launch} {D : va_G} {ca : Nat → ClassId} {tp : Nat} {ad : Nat → Nat} {T_length : Int32} {T_bytes : Nat → Int32} {C_size : Int32} {C_given : Int32} {C_empty : Int32} {C_drafted : Int32} {C_draftedGiven : Int32} {C_block : Nat → Int32} {C_left : Nat → Int32} {C_right : Nat → Int32} {C_pivot : Nat → Int32} {C_positive : Nat → Int32} {C_negative : Nat → Int32} {C_live : Nat → Int32} {C_needed : Nat → Int32} {R_kind : Int32} {R_place : Int32} {R_at : Int32} {R_token : Int32} {R_tokenPlace : Int32} {R_number : Int32} {R_state : Int32} {R_block : Int32} {R_positive : Int32} {R_negative : Int32} {R_left : Int32} {R_right : Int32} {R_pivot : Int32} {L_of : Nat → Int32} {F_cut : Int32} {F_labelledA : Int32} {F_labelledB : Int32} {F_row : Nat → Int64} {A_root : Int32} {A_words : Nat → Int64} {A_known : Nat → Int32} {G_size : Int32} {G_variable : Nat → Int32} {G_low : Nat → Int32} {G_high : Nat → Int32} {G_numberOf : Nat → Int32} {G_nodeOf : Nat → Int32} {G_sides : Nat → Int32} {G_waiting : Nat → Int32} {B_table : Nat → Int64} {B_nextTable : Nat → Int64}  {k : Int32 → Prop} (h : p_C_neededOnes C_empty C_needed k) :
    MTi l y_C_neededOnes b_C_neededOnes 3 (some .int) rm_C_neededOnes D ca tp [.ref (ad 3)] (WB ad ca T_length T_bytes C_size C_given C_empty C_drafted C_draftedGiven C_block C_left C_right C_pivot C_positive C_negative C_live C_needed R_kind R_place R_at R_token R_tokenPlace R_number R_state R_block R_positive R_negative R_left R_right R_pivot L_of F_cut F_labelledA F_labelledB F_row A_root A_words A_known G_size G_variable G_low G_high G_numberOf G_nodeOf G_sides G_waiting B_table B_nextTable)
      (fun r (_ : Unit) => k r)
      (fun (_ : Unit) => WB ad ca T_length T_bytes C_size C_given C_empty C_drafted C_draftedGiven C_block C_left C_right C_pivot C_positive C_negative C_live C_needed R_kind R_place R_at R_token R_tokenPlace R_number R_state R_block R_positive R_negative R_left R_right R_pivot L_of F_cut F_labelledA F_labelledB F_row A_root A_words A_known G_size G_variable G_low G_high G_numberOf G_nodeOf G_sides G_waiting B_table B_nextTable) 0 0 := by
  refine x_entryi (own := R_C) (nm := "neededOnes") (by decide) rfl rfl (Nat.le_of_ble_eq_true rfl) (fun p e s m below meth c A ls C0 hw hl => ?_)
  have hx := C0.1
  have hb := C0.2.1
  have hl : lv_has ls 3 [(0, .ref (ad 3))] := hl
  unfold p_C_neededOnes at h
  refine lv_iconst (v := 0) hx hb d_C_neededOnes_0 (by decide) ?_
  refine lv_istore_n (lv' := [(1, .int (0 : Int32)), (0, .ref (ad 3))]) hx hb d_C_neededOnes_1 rfl hl (by decide) rfl (fun ls hl => ?_)
  refine lv_iconst (v := 1) hx hb d_C_neededOnes_2 (by decide) ?_
  refine lv_istore_n (lv' := [(2, .int (1 : Int32)), (1, .int (0 : Int32)), (0, .ref (ad 3))]) hx hb d_C_neededOnes_3 rfl hl (by decide) rfl (fun ls hl => ?_)
  obtain ⟨j_4, h⟩ := h
  refine b_C_neededOnes_L4 C0 _ _ _ h hw (lv_sub hl [2, 1, 0] rfl)
